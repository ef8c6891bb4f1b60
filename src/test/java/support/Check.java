import java.io.IOException;
import java.nio.charset.StandardCharsets;
import java.nio.file.Files;
import java.nio.file.Path;
import java.util.function.BooleanSupplier;
import java.util.function.IntPredicate;
import java.util.function.IntUnaryOperator;

/** Counts answers that are not as due, and feeds texts. */
final class Check {
    private static int wrong = 0;
    private static int asked = 0;
    /** The sentence of the document that the answers are tests of, and how many there had been ahead of it. */
    private static String sentence = "";
    private static int askedAhead = 0;
    private static int sentences = 0;
    private static String document = "";

    private Check() {
    }

    /** Numbers that are never one of a few things. */
    static final int[] NEVER = {-1, -3, Integer.MIN_VALUE, Integer.MIN_VALUE + 1, Integer.MAX_VALUE, 256, 65536, -65536};

    static void due(String what, long got, long want) {
        asked++;
        if (got != want) {
            wrong++;
            if (wrong <= 50) {
                System.out.println((sentence.isEmpty() ? "" : "[" + sentence + "] ") + what + " answered " + got + ", due is " + want);
            }
        }
    }

    static void due(String what, boolean got, boolean want) {
        due(what, got ? 1 : 0, want ? 1 : 0);
    }

    /** What follows tests these words of the document; they must stand there. A sentence without a test is a fault. */
    static void sentence(String section, String words) {
        endSentence();
        sentence = section + ": " + words;
        askedAhead = asked;
        sentences++;
        due("the document says so", document().isEmpty() || document().contains(words), true);
        askedAhead++;
    }

    private static void endSentence() {
        if (!sentence.isEmpty() && asked == askedAhead) {
            due("a test of its own", false, true);
        }
    }

    /** The document, its lines joined by one blank; empty if it isn't here, and then no quote is compared. */
    static String document() {
        Path file = Path.of("../shared/DOC.md");
        if (document.isEmpty() && Files.isReadable(file)) {
            try {
                document = Files.readString(file, StandardCharsets.UTF_8).replaceAll("\\s+", " ");
            } catch (IOException e) {
                throw new IllegalStateException("../shared/DOC.md can't be read", e);
            }
        }
        return document;
    }

    static void refused(MistakesLent x, String what, int got, int trouble) {
        due(what, got, -1);
        due(what + ": trouble", x.trouble(), trouble);
    }

    static void refused(MistakesLent x, String what, boolean got, int trouble) {
        due(what, got, false);
        due(what + ": trouble", x.trouble(), trouble);
    }

    static void told(MistakesLent x, String what, int got, int want) {
        due(what, got, want);
        due(what + ": trouble", x.trouble(), 0);
    }

    static void told(MistakesLent x, String what, boolean got) {
        due(what, got, true);
        due(what + ": trouble", x.trouble(), 0);
    }

    /** A call with a number of 0 .. count-1: those at both ends aren't refused, those beside them are, by 1. */
    static void oneOf(MistakesLent x, String what, int count, IntUnaryOperator call) {
        if (count > 0) {
            due(what + " 0 isn't refused", call.applyAsInt(0) != -1 && x.trouble() == 0, true);
            due(what + " " + (count - 1) + " isn't refused", call.applyAsInt(count - 1) != -1 && x.trouble() == 0, true);
        }
        refused(x, what + " -2", call.applyAsInt(-2), 1);
        noneOf(x, what, count, call);
    }

    /** As oneOf, but -2 is none and isn't refused. */
    static void oneOrNone(MistakesLent x, String what, int count, IntUnaryOperator call) {
        due(what + " -2 isn't refused", call.applyAsInt(-2) != -1 && x.trouble() == 0, true);
        due(what + " 0 isn't refused", call.applyAsInt(0) != -1 && x.trouble() == 0, true);
        due(what + " " + (count - 1) + " isn't refused", call.applyAsInt(count - 1) != -1 && x.trouble() == 0, true);
        noneOf(x, what, count, call);
    }

    private static void noneOf(MistakesLent x, String what, int count, IntUnaryOperator call) {
        refused(x, what + " " + count, call.applyAsInt(count), 1);
        refused(x, what + " " + (count + 1), call.applyAsInt(count + 1), 1);
        for (int k : NEVER) {
            refused(x, what + " " + k, call.applyAsInt(k), 1);
        }
    }

    /** A call that answers true or false, with numbers of which there are only 0 .. count-1: all others are refused by 1. */
    static void deniedBeside(MistakesLent x, String what, int count, IntPredicate call) {
        refused(x, what + " " + count, call.test(count), 1);
        refused(x, what + " -2", call.test(-2), 1);
        for (int k : NEVER) {
            refused(x, what + " " + k, call.test(k), 1);
        }
    }

    /** What a call that is refused leaves: all that can be asked for of the desk. */
    static void changesNothing(MistakesLent x, String what, BooleanSupplier call) {
        String before = stateOf(x);
        call.getAsBoolean();
        due(what + " changes nothing", stateOf(x).equals(before), true);
    }

    /** All sizes, and who has which slip, what is cleaned and what is overdue. */
    static String stateOf(MistakesLent x) {
        StringBuilder all = new StringBuilder();
        for (int what = 0; what < 16; what++) {
            all.append(x.size(what)).append(' ');
        }
        int slips = x.size(7);
        for (int k = 0; k < slips; k++) {
            all.append(x.who(k)).append(' ').append(x.slip(k, 4)).append(' ').append(x.fits(k)).append(' ');
        }
        return all.append(x.overdue()).toString();
    }

    /** The five numbers of each twenty bytes of a text, padded by blanks. */
    static int[] numbers(String text) {
        int rows = (text.length() + 19) / 20;
        int[] all = new int[rows * 5];
        for (int i = 0; i < rows * 20; i++) {
            int sign = i < text.length() ? text.charAt(i) : ' ';
            all[i / 4] = all[i / 4] << 8 | (sign & 255);
        }
        return all;
    }

    static void feed(MistakesLent x, String text) {
        int[] all = numbers(text);
        for (int i = 0; i < all.length; i += 5) {
            x.feed(all[i], all[i + 1], all[i + 2], all[i + 3], all[i + 4]);
        }
    }

    /** Feeds a text and makes it the museum: what museum() answers. */
    static int load(MistakesLent x, String text) {
        feed(x, text);
        return x.museum(text.length());
    }

    static MistakesLent loaded(String text) {
        MistakesLent x = new MistakesLent();
        int slips = load(x, text);
        if (slips < 0) {
            due("museum() of \"" + text + "\", fault " + x.fault() + " at " + x.where(), 1, 0);
        }
        return x;
    }

    /** A text with the place of its fault marked by ^. */
    static void fault(int number, String marked) {
        int place = marked.indexOf('^');
        fault(number, marked.substring(0, place) + marked.substring(place + 1), place);
    }

    static void fault(int number, String text, int place) {
        MistakesLent x = new MistakesLent();
        refused(x, "museum \"" + text + "\"", load(x, text), 4);
        due("fault of \"" + text + "\"", x.fault(), number);
        due("where of \"" + text + "\"", x.where(), place);
    }

    /** A text without a fault. */
    static void right(String text) {
        MistakesLent x = new MistakesLent();
        int slips = load(x, text);
        due("museum \"" + text + "\" is right: fault", x.fault(), 0);
        due("museum \"" + text + "\" is right: where", x.where(), -1);
        told(x, "museum \"" + text + "\"", slips, x.size(7));
    }

    /** -1 for NoSuchElementException. */
    static int led(MistakesLent x, int i) {
        try {
            return x.led(i);
        } catch (java.util.NoSuchElementException e) {
            return -1;
        }
    }

    static void finish() {
        endSentence();
        String of = sentences == 0 ? "" : " of " + sentences + " sentences";
        System.out.println(asked + " answers" + of + ", " + wrong + " not as due");
        if (wrong != 0 || asked == 0) {
            System.exit(1);
        }
    }
}
