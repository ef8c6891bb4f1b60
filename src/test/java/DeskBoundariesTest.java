import java.util.NoSuchElementException;

/** The boundary cases that the document names of the desk and of what is told: Terms III and IV, promises 36 to 47. */
public final class DeskBoundariesTest {
    private static final String SMALL = "museum weeks 1 breaks 0 fine 0 grown 0;thing a 0;deed d adds a 1;plan p d";

    /** Seven slips (0 twice d, 1 left d, 2 turned d, 3 .. 6 left e), people 0 grown, 1 child, 2 donor, 3 grown; plan p: harm 3, q: 4. */
    private static String museum(int weeks, int grown) {
        return "museum weeks " + weeks + " breaks 0 fine 0 grown " + grown + ";thing a 5;deed d adds a 1;deed e adds a 2;harm a over 5 costs 3;harm a over 6 costs 1;harm a over 7 costs 90;"
            + "plan p d;plan q e;slip sa twice d often 1;slip sb left d often 1;slip sc turned d often 1;slip sd left e often 1;slip se left e often 1;slip sf left e often 1;slip sg twice e often 1;"
            + "person h grown p;person i child p;person j donor q;person k grown q";
    }

    private static MistakesLent loaded() {
        return Check.loaded(museum(1, 99));
    }

    public static void main(String[] args) {
        acts();
        overdue();
        whoAndOverdue();
        lend();
        bring();
        clean();
        week();
        undo();
        undoCall();
        image();
        back();
        led();
        size();
        trouble();
        slipsInCalls();
        manyCalls();
        Check.finish();
    }

    private static void sentence(String section, String words) {
        Check.sentence(section, words);
    }

    private static void told(MistakesLent x, String what, int got, int want) {
        Check.told(x, what, got, want);
    }

    private static void granted(MistakesLent x, String what, boolean got) {
        Check.told(x, what, got);
    }

    // ---- acts

    private static void acts() {
        sentence("III", "ACTS: LEND (a SLIP to a person), BRING it back (made: its HARM on his PLAN is done; or not), "
            + "CLEAN (a SLIP is made by nobody any more: it FITS no PLAN), WEEK.");
        MistakesLent x = loaded();
        granted(x, "lend", x.lend(0, 0));
        Check.due("an act", x.size(13), 1);
        told(x, "bring, made: all the harm of his plan with it", x.bring(0, true), 4);
        Check.due("an act", x.size(13), 2);
        Check.due("it is done", x.size(12), 4);
        granted(x, "lend", x.lend(0, 3));
        told(x, "bring, made, where it doesn't fit: his plan's harm", x.bring(0, true), 4);
        granted(x, "lend", x.lend(1, 0));
        told(x, "bring, made, without harm", x.bring(1, true), 0);
        granted(x, "lend", x.lend(6, 2));
        told(x, "bring, not made", x.bring(6, false), 0);
        Check.due("all that is done", x.size(12), 8);
        Check.due("acts", x.size(13), 8);
        told(x, "fits", x.fits(0), 1);
        granted(x, "clean", x.clean(0));
        told(x, "it fits no plan", x.fits(0), 0);
        told(x, "it changes nothing", x.end(0, 0, 0, 0), 6);
        Check.due("an act", x.size(13), 9);
        told(x, "week", x.week(), 1);
        Check.due("an act", x.size(13), 10);
        x.image();
        x.lend(0, 0);
        x.bring(0, true);
        x.clean(0);
        x.lend(9, 9);
        x.overdue();
        x.decade(1, 1);
        Check.due("images, refused calls and what is only asked are none", x.size(13), 10);
    }

    private static void overdue() {
        sentence("III", "A SLIP that is out for more than weeks WEEKS is OVERDUE.");
        for (int weeks = 1; weeks <= 3; weeks++) {
            for (int late = 0; late <= 2; late++) {
                MistakesLent x = Check.loaded(museum(weeks, 99));
                for (int i = 0; i < late; i++) {
                    x.week();
                }
                granted(x, "lend", x.lend(6, 3));
                for (int i = 0; i <= weeks + 1; i++) {
                    told(x, "weeks " + weeks + ", lent in " + late + ", out for " + i, x.overdue(), i > weeks ? 64 : 0);
                    x.week();
                }
                granted(x, "lend another", x.lend(0, 0));
                told(x, "that one isn't", x.overdue(), 64);
                told(x, "bring", x.bring(6, false), 0);
                told(x, "it isn't any more", x.overdue(), 0);
                granted(x, "lent anew", x.lend(6, 3));
                told(x, "nor lent anew", x.overdue(), 0);
            }
        }
    }

    private static void whoAndOverdue() {
        sentence("36", "Who has a SLIP; -2 nobody. NONE: 1.");
        MistakesLent x = loaded();
        for (int k = 0; k < 7; k++) {
            told(x, "nobody", x.who(k), -2);
        }
        for (int p = 0; p < 4; p++) {
            granted(x, "lend", x.lend(6 - p, p));
            told(x, "who", x.who(6 - p), p);
        }
        told(x, "nobody still", x.who(2), -2);
        told(x, "bring", x.bring(6, true), 3);
        told(x, "nobody again", x.who(6), -2);
        Check.oneOf(x, "slip", 7, k -> x.who(k));
        sentence("37", "SLIPS that are OVERDUE, as bits. NONE: 1 (no MUSEUM).");
        MistakesLent y = loaded();
        told(y, "none is out", y.overdue(), 0);
        for (int p = 0; p < 4; p++) {
            granted(y, "lend", y.lend(2 * p, p));
            y.week();
        }
        told(y, "the first three", y.overdue(), 1 + 4 + 16);
        y.week();
        told(y, "all four", y.overdue(), 1 + 4 + 16 + 64);
        MistakesLent n = new MistakesLent();
        Check.refused(n, "no museum", n.overdue(), 1);
        Check.load(n, SMALL);
        told(n, "no slips", n.overdue(), 0);
    }

    private static void lend() {
        sentence("38", "LEND: true; false: 1; 5 (it is out, it is cleaned, he has one, he is a child and may not).");
        MistakesLent x = loaded();
        Check.deniedBeside(x, "slip", 7, k -> x.lend(k, 0));
        Check.deniedBeside(x, "person", 4, p -> x.lend(0, p));
        Check.refused(x, "neither", x.lend(7, 4), 1);
        granted(x, "the last to the last", x.lend(6, 3));
        granted(x, "the first to the first", x.lend(0, 0));
        Check.refused(x, "it is out", x.lend(6, 2), 5);
        Check.refused(x, "it is out, he has it", x.lend(6, 3), 5);
        Check.refused(x, "he has one", x.lend(1, 3), 5);
        Check.refused(x, "he has one, the first", x.lend(1, 0), 5);
        granted(x, "clean", x.clean(2));
        for (int p = 0; p < 4; p++) {
            Check.refused(x, "it is cleaned", x.lend(2, p), 5);
        }
        Check.refused(x, "out, and there is nobody", x.lend(6, 4), 1);
        granted(x, "a child", x.lend(1, 1));
        told(x, "bring", x.bring(6, false), 0);
        granted(x, "he has none any more", x.lend(5, 3));
        granted(x, "it isn't out any more", x.lend(6, 2));
        Check.changesNothing(x, "one that is out", () -> x.lend(6, 1));
        Check.changesNothing(x, "no such slip", () -> x.lend(7, 1));
        for (int grown : new int[] {2, 3, 4, 5}) {
            MistakesLent c = Check.loaded(museum(1, grown));
            Check.due("a child, harm 4, grown " + grown, c.lend(0, 1), grown >= 4);
            Check.due("a child, harm 4, grown " + grown + ": trouble", c.trouble(), grown >= 4 ? 0 : 5);
            MistakesLent d = Check.loaded(museum(1, grown));
            Check.due("a child, harm 3 as it doesn't fit, grown " + grown, d.lend(3, 1), grown >= 3);
            granted(d, "others may", d.lend(0, 0));
        }
        MistakesLent z = Check.loaded(museum(1, 0));
        granted(z, "a child, no harm, grown 0", z.lend(1, 1));
    }

    private static void bring() {
        sentence("39", "BRING it back: what is done of HARM by it. NONE: 1; 5 (it isn't out).");
        MistakesLent x = loaded();
        for (int k : Check.NEVER) {
            Check.refused(x, "none such", x.bring(k, true), 1);
        }
        for (int k = 0; k < 7; k++) {
            Check.refused(x, "it isn't out", x.bring(k, true), 5);
            Check.refused(x, "it isn't out, not made", x.bring(k, false), 5);
        }
        Check.refused(x, "7", x.bring(7, true), 1);
        Check.refused(x, "-2, not made", x.bring(-2, false), 1);
        granted(x, "lend", x.lend(6, 3));
        told(x, "made", x.bring(6, true), 94);
        Check.due("done", x.size(12), 94);
        Check.refused(x, "brought back already", x.bring(6, true), 5);
        granted(x, "lend", x.lend(6, 0));
        told(x, "made with another plan", x.bring(6, true), 3);
        Check.due("done", x.size(12), 97);
        granted(x, "lend", x.lend(0, 1));
        told(x, "not made", x.bring(0, false), 0);
        Check.due("no more is done", x.size(12), 97);
        granted(x, "clean", x.clean(0));
        Check.refused(x, "a cleaned one isn't out", x.bring(0, true), 5);
        Check.changesNothing(x, "one that isn't out", () -> x.bring(1, true) > 0);
        Check.due("acts", x.size(13), 7);
    }

    private static void clean() {
        sentence("40", "CLEAN: true; false: 1; 5 (it is cleaned, it is out).");
        MistakesLent x = loaded();
        Check.deniedBeside(x, "slip", 7, k -> x.clean(k));
        granted(x, "lend", x.lend(3, 0));
        Check.refused(x, "it is out", x.clean(3), 5);
        told(x, "it isn't cleaned", x.slip(3, 4), 0);
        told(x, "bring", x.bring(3, false), 0);
        for (int k = 0; k < 7; k++) {
            granted(x, "clean", x.clean(k));
            Check.refused(x, "it is cleaned", x.clean(k), 5);
            told(x, "cleaned", x.slip(k, 4), 1);
        }
        Check.changesNothing(x, "a cleaned one", () -> x.clean(6));
        granted(x, "undo", x.undo());
        told(x, "not cleaned then", x.slip(6, 4), 0);
        granted(x, "clean again", x.clean(6));
    }

    private static void week() {
        sentence("41", "WEEK: how many there have been. NONE: 1 (no MUSEUM).");
        MistakesLent n = new MistakesLent();
        Check.refused(n, "no museum", n.week(), 1);
        Check.due("none", n.size(11), 0);
        Check.load(n, SMALL);
        for (int i = 1; i <= 150; i++) {
            told(n, "week", n.week(), i);
        }
        Check.due("now", n.size(11), 150);
        granted(n, "undo", n.undo());
        told(n, "one again", n.week(), 150);
        Check.load(n, SMALL);
        told(n, "another museum", n.week(), 1);
    }

    private static void undo() {
        sentence("III", "UNDO: the latest (12 are kept).");
        for (int acts = 0; acts <= 26; acts++) {
            MistakesLent x = loaded();
            for (int i = 0; i < acts; i++) {
                x.week();
            }
            int kept = Math.min(12, acts);
            Check.due(acts + " acts", x.size(13), kept);
            for (int i = 1; i <= kept; i++) {
                granted(x, "undo " + i, x.undo());
                Check.due("the week then", x.size(11), acts - i);
                Check.due("kept then", x.size(13), kept - i);
            }
            Check.refused(x, "undo of more than are kept", x.undo(), 6);
            Check.due("the week stays", x.size(11), acts - kept);
        }
        MistakesLent y = loaded();
        y.lend(0, 0);
        y.week();
        y.bring(0, true);
        y.clean(0);
        y.lend(6, 3);
        granted(y, "undo lend", y.undo());
        Check.due("nobody", y.who(6), -2);
        granted(y, "undo clean", y.undo());
        Check.due("not cleaned", y.slip(0, 4), 0);
        granted(y, "undo bring", y.undo());
        Check.due("out again", y.who(0), 0);
        Check.due("no harm done", y.size(12), 0);
        granted(y, "undo week", y.undo());
        Check.due("week 0", y.size(11), 0);
        granted(y, "undo lend", y.undo());
        Check.due("nobody", y.who(0), -2);
        Check.refused(y, "nothing more", y.undo(), 6);
        granted(y, "anew", y.lend(0, 3));
        Check.due("one can be undone", y.size(13), 1);
        MistakesLent o = loaded();
        o.lend(0, 0);
        o.week();
        o.week();
        told(o, "overdue", o.overdue(), 1);
        o.bring(0, false);
        o.lend(0, 0);
        o.undo();
        o.undo();
        told(o, "overdue since it was lent first", o.overdue(), 1);
    }

    private static void undoCall() {
        sentence("42", "UNDO: true; false: 6.");
        MistakesLent n = new MistakesLent();
        Check.refused(n, "no museum", n.undo(), 6);
        Check.load(n, SMALL);
        Check.refused(n, "nothing yet", n.undo(), 6);
        told(n, "week", n.week(), 1);
        granted(n, "undo", n.undo());
        Check.refused(n, "nothing more", n.undo(), 6);
        told(n, "week", n.week(), 1);
        Check.load(n, SMALL);
        Check.refused(n, "not what was of another museum", n.undo(), 6);
        n.week();
        Check.load(n, "museum");
        granted(n, "though a museum was refused", n.undo());
    }

    private static void image() {
        sentence("III", "IMAGES: up to 3; gone back to one, nothing can be undone.");
        MistakesLent x = loaded();
        for (int i = 0; i < 3; i++) {
            told(x, "image", x.image(), i);
            x.week();
        }
        for (int i = 0; i < 3; i++) {
            Check.refused(x, "a fourth", x.image(), 3);
            Check.due("three", x.size(14), 3);
        }
        for (int i = 2; i >= 0; i--) {
            x.week();
            granted(x, "back", x.back(i));
            Check.due("nothing can be undone", x.size(13), 0);
            Check.refused(x, "undo", x.undo(), 6);
            Check.due("the week by it", x.size(11), i);
        }
        for (int i = 1; i <= 14; i++) {
            x.week();
            Check.due("acts anew", x.size(13), Math.min(12, i));
        }
        granted(x, "undo", x.undo());
        Check.due("the week", x.size(11), 13);
        sentence("43", "An IMAGE: its number. NONE: 1 (no MUSEUM); 3.");
        MistakesLent n = new MistakesLent();
        for (int i = 0; i < 4; i++) {
            Check.refused(n, "no museum", n.image(), 1);
        }
        for (int again = 0; again < 2; again++) {
            Check.load(n, SMALL);
            for (int i = 0; i < 3; i++) {
                Check.due("so many", n.size(14), i);
                told(n, "image", n.image(), i);
            }
            Check.refused(n, "no room", n.image(), 3);
            granted(n, "back", n.back(1));
            Check.refused(n, "no room still", n.image(), 3);
        }
    }

    private static void back() {
        sentence("44", "All is as by an IMAGE (all IMAGES stay): true; false: 1.");
        MistakesLent n = new MistakesLent();
        Check.refused(n, "no museum", n.back(0), 1);
        Check.load(n, SMALL);
        Check.refused(n, "no image", n.back(0), 1);
        MistakesLent x = loaded();
        x.lend(0, 0);
        x.bring(0, true);
        x.clean(0);
        x.week();
        x.lend(6, 3);
        told(x, "image", x.image(), 0);
        Check.deniedBeside(x, "image", 1, i -> x.back(i));
        String first = state(x);
        x.bring(6, true);
        x.clean(6);
        x.week();
        x.week();
        x.lend(1, 1);
        told(x, "image", x.image(), 1);
        String second = state(x);
        for (int i = 0; i < 3; i++) {
            granted(x, "back to the first", x.back(0));
            Check.due("all is as by the first", state(x).equals(first), true);
            x.bring(6, false);
            x.week();
            granted(x, "back to the second", x.back(1));
            Check.due("all is as by the second", state(x).equals(second), true);
            Check.due("all images stay", x.size(14), 2);
            x.undo();
            x.bring(1, true);
        }
        Check.refused(x, "a third", x.back(2), 1);
        told(x, "image", x.image(), 2);
        granted(x, "a third then", x.back(2));
        Check.deniedBeside(x, "image", 3, i -> x.back(i));
        granted(x, "back to the first again", x.back(0));
        x.week();
        told(x, "lent in the week by the image", x.overdue(), 0);
        x.week();
        told(x, "overdue as of that week", x.overdue(), 64);
        MistakesLent r = loaded();
        r.image();
        r.week();
        Check.refused(r, "no such", r.back(1), 1);
        Check.due("a refused one leaves what can be undone", r.size(13), 1);
    }

    /** All but what can be undone and the images. */
    private static String state(MistakesLent x) {
        StringBuilder all = new StringBuilder();
        for (int k = 0; k < 7; k++) {
            all.append(x.who(k)).append(' ').append(x.slip(k, 4)).append(' ').append(x.fits(k)).append(' ');
        }
        return all.append(x.size(11)).append(' ').append(x.size(12)).append(' ').append(x.overdue()).append(' ').append(x.harm(0, 0, -2)).toString();
    }

    // ---- what is told

    private static void none(MistakesLent x, int i) {
        int before = x.trouble();
        int thrown = 0;
        try {
            x.led(i);
        } catch (NoSuchElementException e) {
            thrown = e.getClass() == NoSuchElementException.class ? 1 : 2;
        }
        Check.due("led(" + i + ") throws", thrown, 1);
        Check.due("led(" + i + ") leaves the trouble", x.trouble(), before);
    }

    private static void led() {
        sentence("45", "The i-th SLIP that is out. NoSuchElementException if there is none such.");
        MistakesLent n = new MistakesLent();
        none(n, 0);
        none(n, -1);
        MistakesLent x = loaded();
        none(x, 0);
        int[] order = {6, 0, 3, 1};
        int[][] due = {{6}, {0, 6}, {0, 3, 6}, {0, 1, 3, 6}};
        for (int p = 0; p < 4; p++) {
            granted(x, "lend", x.lend(order[p], p));
            for (int i = 0; i <= p; i++) {
                Check.due("led " + i + " of " + (p + 1), Check.led(x, i), due[p][i]);
            }
            none(x, p + 1);
        }
        for (int i : Check.NEVER) {
            none(x, i);
        }
        none(x, -2);
        told(x, "bring", x.bring(0, false), 0);
        Check.due("led 0 then", Check.led(x, 0), 1);
        none(x, 3);
        granted(x, "clean", x.clean(0));
        Check.due("a cleaned one isn't out", Check.led(x, 0), 1);
    }

    private static void size() {
        sentence("46", "0 weeks, 1 breaks, 2 fine, 3 grown, 4 THINGS, 5 DEEDS, 6 PLANS, 7 SLIPS, 8 people, 9 asks, 10 harms, 11 the week NOW, 12 all HARM done, "
            + "13 ACTS that can be undone, 14 IMAGES, 15 bytes of THE TAPE.");
        MistakesLent f = Check.loaded("museum weeks 3 breaks 98 fine 9 grown 97;thing a 0;thing b 9;thing c 5;thing d 1;thing e 8;deed f adds a 1;deed g adds b 1;deed h adds c 9;deed i adds e 9;"
            + "deed j adds a 9;deed k adds d 1;deed l adds c 1;deed m adds b 1;harm a over 0 costs 1;harm a over 0 costs 1;harm a over 0 costs 1;harm a over 0 costs 1;harm a over 0 costs 1;"
            + "harm a over 0 costs 1;plan n f;plan o f;plan q f;plan r f;slip s left f often 9;slip t left f often 9;slip u left f often 9;slip v left f often 9;slip w left f often 9;"
            + "slip x left f often 9;slip y twice f often 9;person z grown n;person za child o;person zb donor q;person zc child r;asks z s pays 1;asks z t pays 1;asks z u pays 1;"
            + "asks z v pays 1;asks z w pays 1;asks z x pays 1;asks z y pays 1;ends r 9,9,5,1,0");
        int[] most = {3, 98, 9, 97, 5, 8, 4, 7, 4, 7, 6, 0, 0, 0, 0, 0};
        for (int what = 0; what < 16; what++) {
            Check.due("size " + what, f.size(what), most[what]);
        }
        f.lend(6, 0);
        f.bring(6, true);
        f.week();
        f.week();
        f.image();
        f.feed(0, 0, 0, 0, 0);
        int[] then = {2, 6, 4, 1, 20};
        for (int i = 0; i < 5; i++) {
            Check.due("size " + (11 + i), f.size(11 + i), then[i]);
        }
        sentence("46", "NONE for others; 0 for what there isn't.");
        MistakesLent n = new MistakesLent();
        for (int what : new int[] {-1, -2, 16, 17, 255, 256, -16, Integer.MIN_VALUE, Integer.MAX_VALUE, 65536}) {
            Check.due("size " + what, f.size(what), -1);
            Check.due("size " + what + " of a new one", n.size(what), -1);
        }
        for (int what = 0; what < 16; what++) {
            Check.due("size " + what + " of a new one", n.size(what), 0);
        }
        Check.load(n, "museum weeks 3 breaks 9 fine 9 grown 9");
        for (int what = 0; what < 16; what++) {
            Check.due("size " + what + " behind a refused museum", n.size(what), 0);
        }
        Check.load(n, SMALL);
        int[] least = {1, 0, 0, 0, 1, 1, 1, 0, 0, 0, 0, 0, 0, 0, 0, 0};
        for (int what = 0; what < 16; what++) {
            Check.due("size " + what + " of a small one", n.size(what), least[what]);
        }
    }

    private static void trouble() {
        sentence("IV", "TROUBLE of the latest call that may be refused (those of which a number is told here)");
        MistakesLent x = new MistakesLent();
        Check.due("none yet", x.trouble(), 0);
        for (int number : new int[] {6, 1, 2, 5, 3, 4, 0}) {
            MistakesLent y = loaded();
            y.image();
            y.image();
            y.image();
            switch (number) {
                case 0 -> y.week();
                case 1 -> y.step(9, 9);
                case 2 -> y.level(0, -2, 9, 0);
                case 3 -> y.image();
                case 4 -> y.museum(0);
                case 5 -> y.bring(0, true);
                default -> y.undo();
            }
            Check.due("trouble", y.trouble(), number);
            y.feed(1, 2, 3, 4, 5);
            for (int i = 0; i < 50; i++) {
                y.feed(1, 2, 3, 4, 5);
            }
            y.fault();
            y.where();
            y.size(0);
            y.size(16);
            Check.led(y, 0);
            Check.due("it stays by calls of which no number is told", y.trouble(), number);
            y.fits(0);
            Check.due("it doesn't by others", y.trouble(), 0);
        }
        sentence("IV", "0 it wasn't; 1 there is none such; 2 a number; 3 no room; 4 a FAULT; 5 not so; 6 there is none.");
        MistakesLent t = loaded();
        Check.refused(t, "none such", t.slip(7, 0), 1);
        told(t, "it wasn't", t.slip(6, 0), 1);
        Check.refused(t, "a number", t.museum(1), 2);
        Check.refused(t, "a number", t.decade(65537, 0), 2);
        Check.refused(t, "a number", t.level(0, -2, 2, 0), 2);
        Check.refused(t, "a fault", t.museum(0), 4);
        Check.refused(t, "not so", t.bring(0, false), 5);
        Check.refused(t, "there is none", t.undo(), 6);
        Check.refused(t, "there is none", t.which(), 6);
        granted(t, "it wasn't", t.clean(0));
        Check.refused(t, "not so", t.clean(0), 5);
        Check.refused(t, "not so", t.lend(0, 0), 5);
        Check.refused(t, "none such", t.back(0), 1);
        t.image();
        t.image();
        t.image();
        Check.refused(t, "no room", t.image(), 3);
        sentence("47", "`int trouble()`: TROUBLE.");
        Check.due("asked twice", t.trouble(), 3);
        Check.due("asked thrice", t.trouble(), 3);
        told(t, "which is none if something is told", t.size(14) + t.overdue(), 3);
    }

    private static void slipsInCalls() {
        sentence("IV", "SLIPS in calls: -2 is none.");
        MistakesLent x = loaded();
        told(x, "end", x.end(0, -2, -2, 0), 6);
        told(x, "end with the other alone", x.end(0, -2, 0, 0), 7);
        told(x, "level", x.level(0, -2, 1, 0), 6);
        told(x, "breaks", x.breaks(0, -2, -2), -2);
        told(x, "harm", x.harm(0, -2, -2), 3);
        for (int wrong : new int[] {-1, -3, 7}) {
            Check.refused(x, "end", x.end(0, wrong, -2, 0), 1);
            Check.refused(x, "end", x.end(0, -2, wrong, 0), 1);
            Check.refused(x, "level", x.level(0, wrong, 1, 0), 1);
            Check.refused(x, "breaks", x.breaks(0, wrong, -2), 1);
            Check.refused(x, "breaks", x.breaks(0, -2, wrong), 1);
            Check.refused(x, "harm", x.harm(0, wrong, -2), 1);
            Check.refused(x, "harm", x.harm(0, -2, wrong), 1);
        }
        Check.refused(x, "none is no slip of which something is told", x.slip(-2, 0), 1);
        Check.refused(x, "fits", x.fits(-2), 1);
        Check.refused(x, "who", x.who(-2), 1);
        Check.refused(x, "lend", x.lend(-2, 0), 1);
        Check.refused(x, "bring", x.bring(-2, true), 1);
        Check.refused(x, "clean", x.clean(-2), 1);
        sentence("IV", "The constants: `NONE = -1`: There is none; refused.");
        Check.due("NONE", MistakesLent.NONE, -1);
        Check.due("refused", x.fits(-2), MistakesLent.NONE);
        Check.due("there is none", x.size(16), MistakesLent.NONE);
    }

    private static void manyCalls() {
        sentence("0", "An object is used for at most 512 calls after it has been made; what later calls answer is free.");
        MistakesLent x = new MistakesLent();
        int calls = 0;
        int[] all = Check.numbers(museum(1, 99));
        for (int i = 0; i < all.length; i += 5) {
            x.feed(all[i], all[i + 1], all[i + 2], all[i + 3], all[i + 4]);
            calls++;
        }
        Check.due("museum", x.museum(museum(1, 99).length()), 7);
        calls++;
        int week = 0;
        while (calls < 511) {
            week++;
            calls++;
            Check.due("week " + week, x.week(), week);
        }
        Check.due("the 512th call", x.size(11), week);
    }
}
