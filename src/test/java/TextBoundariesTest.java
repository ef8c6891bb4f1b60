import java.util.ArrayList;
import java.util.List;

/** The boundary cases that the document names of the tape, the text and its faults: Term I, promises 1 to 5. */
public final class TextBoundariesTest {
    private static final String M = "museum weeks 1 breaks 0 fine 0 grown 0;";
    private static final String T = "thing a 0;thing b 9;";
    private static final String D = "deed up adds a 1;deed dn takes b 1;";
    private static final String P = "plan p up;";
    private static final String S = "slip s left up often 1;slip t left up often 1;";
    private static final String H = "person h grown p;person i child p;";
    private static final String SMALL = "museum weeks 1 breaks 0 fine 0 grown 0;thing a 0;deed d adds a 1;plan p d";

    /** A museum with all that a text may have. */
    private static final String ALL = "museum weeks 2 breaks 9 fine 2 grown 10;thing fire 2;thing soup 0;"
        + "deed boil adds fire 1,takes soup 4 if fire over 0;deed stir adds soup 1;harm soup under 3 costs 8;plan lunch boil,stir,stir;"
        + "slip miss left boil often 3;slip wrong for boil stir often 1;person ann donor lunch;asks ann miss pays 7;ends lunch 0,4";

    private static final String[] RESERVED = {"museum", "thing", "harm", "deed", "plan", "slip", "person", "asks", "ends", "if"};
    /** Words of the text that may be names all the same. */
    private static final String[] FREE = {"weeks", "breaks", "fine", "grown", "over", "under", "costs", "adds", "takes", "left", "twice",
        "turned", "early", "for", "often", "child", "donor", "pays"};

    public static void main(String[] args) {
        newObject();
        tape();
        tokens();
        lines();
        museumLine();
        thingsAndHarms();
        deeds();
        plansAndSlips();
        peopleAndAsks();
        ends();
        names();
        faultsInOrder();
        form();
        faultsTwoToFour();
        faultsFiveAndSix();
        museumCall();
        faultAndWhere();
        Check.finish();
    }

    private static void sentence(String section, String words) {
        Check.sentence(section, words);
    }

    private static void fault(int number, String marked) {
        Check.fault(number, marked);
    }

    private static void right(String text) {
        Check.right(text);
    }

    // ---- promise 1

    private static void newObject() {
        sentence("1", "`MistakesLent()`: No MUSEUM.");
        MistakesLent x = new MistakesLent();
        Check.due("trouble", x.trouble(), 0);
        Check.due("fault", x.fault(), 0);
        Check.due("where", x.where(), -1);
        for (int what = 0; what < 16; what++) {
            Check.due("size " + what, x.size(what), 0);
        }
        Check.due("led", Check.led(x, 0), -1);
        int[] answers = {x.slip(0, 0), x.step(0, 0), x.person(0, 0), x.end(0, -2, -2, 0), x.level(0, -2, 0, 0), x.breaks(0, -2, -2),
            x.harm(0, -2, -2), x.fits(0), x.harmless(0), x.good(0), x.extreme(0, true), x.cancels(0), x.cancel(0, 0), x.worstTwo(0),
            x.which(), x.whichNone(), x.likeliest(), x.look(0), x.lookMost(0), x.bears(0), x.made(0), x.madeAt(0, 0), x.apart(), x.copies(),
            x.worth(0), x.lending(), x.weekOf(0), x.rests(0, 1), x.rest(0, 1), x.decade(0, 0), x.who(0), x.overdue(), x.bring(0, true),
            x.week(), x.image()};
        for (int i = 0; i < answers.length; i++) {
            Check.due("call " + i, answers[i], -1);
        }
        Check.refused(x, "lend", x.lend(0, 0), 1);
        Check.refused(x, "clean", x.clean(0), 1);
        Check.refused(x, "back", x.back(0), 1);
        Check.refused(x, "undo", x.undo(), 6);
        Check.refused(x, "museum", x.museum(1), 2);
        Check.told(x, "a first museum", Check.load(x, SMALL), 0);
    }

    // ---- promise 2

    private static void tape() {
        sentence("I", "THE TAPE has 1,000 bytes");
        String text = ALL;
        while (text.length() < 1000) {
            text += " ";
        }
        right(text);
        String full = ALL.substring(0, ALL.length() - 1);
        while (full.length() < 999) {
            full += " ";
        }
        right(full + "4");
        String word = SMALL.substring(0, SMALL.length() - 1);
        while (word.length() < 999) {
            word += " ";
        }
        right(word + "d");
        fault(2, word + "^e");
        sentence("2", "Twenty bytes come behind THE TAPE, of each number the highest first: how many it has");
        MistakesLent x = new MistakesLent();
        Check.due("feed", x.feed('m' << 24 | 'u' << 16 | 's' << 8 | 'e', 'u' << 24 | 'm' << 16 | ' ' << 8 | 255, -1, Integer.MIN_VALUE, 0), 20);
        Check.refused(x, "museum", x.museum(20), 4);
        Check.due("the eighth byte", x.where(), 7);
        for (int at = 0; at < 20; at++) {
            int[] five = {0x20202020, 0x20202020, 0x20202020, 0x20202020, 0x20202020};
            five[at / 4] = five[at / 4] & ~(255 << 24 - at % 4 * 8) | 200 << 24 - at % 4 * 8;
            MistakesLent y = new MistakesLent();
            y.feed(0x20202020, 0x20202020, 0x20202020, 0x20202020, 0x20202020);
            Check.due("feed", y.feed(five[0], five[1], five[2], five[3], five[4]), 40);
            y.museum(40);
            Check.due("byte " + at + " comes behind the tape", y.where(), 20 + at);
        }
        sentence("2", "NONE, and none comes, if there would be more than 1,000.");
        MistakesLent z = new MistakesLent();
        for (int i = 1; i <= 49; i++) {
            Check.due("feed", z.feed(0x20202020, 0x20202020, 0x20202020, 0x20202020, 0x20202020), 20 * i);
        }
        Check.due("the last that there is room for", z.feed(0x20202020, 0x20202020, 0x20202020, 0x20202020, 0x20202041), 1000);
        for (int i = 0; i < 3; i++) {
            Check.due("a full tape", z.feed(0x41414141, 0x41414141, 0x41414141, 0x41414141, 0x41414141), -1);
            Check.due("none came", z.size(15), 1000);
        }
        Check.refused(z, "museum(1001)", z.museum(1001), 2);
        Check.refused(z, "museum(1000)", z.museum(1000), 4);
        Check.due("the bytes stayed", z.where(), 999);
        Check.due("fed anew", z.feed(0, 0, 0, 0, 0), 20);
        z.museum(0);
        Check.told(z, "read anew", Check.load(z, SMALL), 0);
    }

    // ---- tokens

    private static List<int[]> tokensOf(String text) {
        List<int[]> all = new ArrayList<>();
        for (int i = 0; i < text.length();) {
            int j = i + 1;
            while (kind(text.charAt(i)) > 0 && j < text.length() && kind(text.charAt(j)) == kind(text.charAt(i))) {
                j++;
            }
            if (text.charAt(i) != ' ') {
                all.add(new int[] {i, j});
            }
            i = j;
        }
        return all;
    }

    private static int kind(char c) {
        return c >= 'a' && c <= 'z' ? 1 : c >= '0' && c <= '9' ? 2 : 0;
    }

    private static void tokens() {
        sentence("I", "blanks, 32, part TOKENS and mean nothing else");
        right("   " + ALL + "   ");
        right(ALL.replace(" ", "     ").replace(";", " ; ").replace(",", "  ,  "));
        String bare = "museum weeks2breaks9fine2grown10;thing a2;deed d adds a1if a over0;plan p d;ends p0";
        right(bare);
        for (int[] token : tokensOf(ALL)) {
            right(ALL.substring(0, token[0]) + " " + ALL.substring(token[0]));
            for (int at = token[0] + 1; at < token[1]; at++) {
                MistakesLent x = new MistakesLent();
                Check.refused(x, "a blank in a token at " + at, Check.load(x, ALL.substring(0, at) + " " + ALL.substring(at)), 4);
            }
        }
        for (int sign : new int[] {0, 8, 9, 10, 11, 12, 13, 31, 133, 160}) {
            fault(1, M + "^" + (char) sign + "thing a 0");
        }
        sentence("I", "WORDS of 1 to 8 small letters that stand together");
        for (String name : new String[] {"a", "z", "az", "abcdefg", "abcdefgh", "zzzzzzzz", "museumm", "ifs", "i", "thingz"}) {
            right(M + "thing " + name + " 1;deed d adds " + name + " 1;plan p d");
        }
        fault(1, M + "thing ^abcdefghi 1");
        fault(1, M + "thing ^abcdefghabcdefgh 1");
        fault(1, M + "thing ^zzzzzzzzzzzzzzzzzzzzzzzzzzzzzzzzzzzzzzzzzzzz 1");
        fault(1, M + "thing abcdefgh 1;harm ^abcdefghi over 1");
        fault(1, "^museummuseum weeks");
        fault(2, M + "thing abcdefgh 1;deed d adds ^abcdefg 1");
        fault(2, M + "thing abcdefg 1;deed d adds ^abcdefgh 1");
        for (int sign : new int[] {'a' - 1, 'z' + 1, 'A', 'Z', '_', 'a' + 128, 'z' + 128}) {
            fault(1, M + "thing ^" + (char) sign + " 1");
            fault(1, M + "thing b^" + (char) sign + " 1");
        }
        sentence("I", "WHOLES of 1 to 2 digits that do");
        right("museum weeks 01 breaks 00 fine 09 grown 0;thing a 05;deed d adds a 01;plan p d;ends p 00");
        right("museum weeks 3 breaks 99 fine 9 grown 99;thing a 9;deed d adds a 9;plan p d;ends p 9");
        fault(1, "museum weeks ^001");
        fault(1, "museum weeks ^0000000001");
        fault(1, "museum weeks 1 breaks ^100");
        fault(1, "museum weeks 1 breaks ^4294967296 fine");
        fault(1, "museum weeks 1 breaks 1 ^1 fine");
        for (int sign : new int[] {'0' - 1, '9' + 1, '-', '+', '.', '0' + 128}) {
            fault(1, "museum weeks ^" + (char) sign);
            fault(1, "museum weeks ^" + (char) sign + "1");
            fault(1, "museum weeks 1^" + (char) sign + " breaks");
        }
        sentence("I", "single ones of ; ,");
        fault(1, M + "thing a 0;^;thing b 1");
        fault(1, M + T + "deed d adds a 1,^,adds b 1");
        fault(1, M + T + D + "plan p up,^,up");
        fault(1, M + T + D + "plan p up,^;slip");
        fault(1, M + T + D + "plan p up^:plan q up");
        fault(1, M + T + D + "plan p up^.plan q up");
    }

    private static void lines() {
        sentence("I", "LINE {; LINE}. LINE, one of:");
        right(SMALL);
        right(ALL);
        fault(1, "^");
        fault(1, " ^");
        fault(1, "^;");
        fault(1, SMALL + ";^");
        fault(1, SMALL + ";  ^");
        fault(1, SMALL + ";^;");
        fault(1, SMALL + ",^");
        fault(1, SMALL + ";harm a over 1 costs 1^,");
        fault(1, SMALL + " ^plan q d");
        fault(1, "^;" + SMALL);
        fault(1, M + "^room a 1");
        fault(1, M + "^weeks 1");
        fault(1, M + "^if");
        fault(1, M + "^7");
        fault(1, M + "^thin a 1");
        fault(1, M + "^things a 1");
        keywords();
    }

    /** Each word of the lines, a letter more, a letter less, another letter at either end. */
    private static void keywords() {
        for (int[] token : tokensOf(ALL)) {
            String word = ALL.substring(token[0], token[1]);
            String kept = "museum weeks breaks fine grown thing deed adds takes over under harm costs plan slip left for often person donor asks pays ends";
            if (!(" " + kept + " ").contains(" " + word + " ")) {
                continue;
            }
            String shorter = word.substring(0, word.length() - 1);
            String[] others = {word + "x", "x" + word, shorter, word.substring(1), shorter + "x", "x" + word.substring(1), word + word};
            for (String other : others) {
                Check.fault(1, ALL.substring(0, token[0]) + other + ALL.substring(token[1]), token[0]);
            }
        }
    }

    // ---- the bounds of each line

    /** A WHOLE between two texts that are right with it: all numbers of one and two digits, and a number of three. */
    private static void bounds(String before, String behind, int least, int most) {
        for (int value = 0; value <= 99; value++) {
            for (String whole : new String[] {String.valueOf(value), value < 10 ? "0" + value : String.valueOf(value)}) {
                if (value >= least && value <= most) {
                    right(before + whole + behind);
                } else {
                    fault(4, before + "^" + whole + behind);
                }
            }
        }
        fault(1, before + "^100" + behind);
        fault(1, before + "^" + behind.stripLeading());
        fault(1, before + "^one" + behind);
        fault(1, before + "^,1" + behind);
        fault(1, before + "^-1" + behind);
    }

    private static void museumLine() {
        sentence("I", "museum weeks WHOLE breaks WHOLE fine WHOLE grown WHOLE (1 .. 3; 0 .. 99; 0 .. 9; 0 .. 99), ahead of all others");
        String rest = ";thing a 0;deed d adds a 1;plan p d";
        bounds("museum weeks ", " breaks 0 fine 0 grown 0" + rest, 1, 3);
        bounds("museum weeks 1 breaks ", " fine 0 grown 0" + rest, 0, 99);
        bounds("museum weeks 1 breaks 0 fine ", " grown 0" + rest, 0, 9);
        bounds("museum weeks 1 breaks 0 fine 0 grown ", rest, 0, 99);
        int[][] sizes = {{1, 0, 0, 0}, {3, 99, 9, 99}, {2, 1, 8, 98}};
        for (int[] row : sizes) {
            MistakesLent x = Check.loaded("museum weeks " + row[0] + " breaks " + row[1] + " fine " + row[2] + " grown " + row[3] + rest);
            for (int what = 0; what < 4; what++) {
                Check.due("size " + what, x.size(what), row[what]);
            }
        }
        fault(1, "museum ^breaks 0");
        fault(1, "museum weeks 1 ^fine 0");
        fault(1, "museum weeks 1 breaks 0 ^grown 0");
        fault(1, "museum weeks 1 breaks 0 fine 0^;");
        for (int i = 1; i < 9; i++) {
            fault(6, "^" + RESERVED[i] + " a 1;" + SMALL);
        }
    }

    /** Lines of one sort: as many as there is room for are right, one more isn't; what stands for # is a, b, c and so on. */
    private static void room(String before, String line, String behind, int room) {
        StringBuilder text = new StringBuilder(before);
        for (int i = 0; i < room; i++) {
            text.append(line.replace("#", "x" + (char) ('a' + i))).append(';');
        }
        right(text + behind);
        fault(5, text + "^" + line.replace("#", "y") + ";" + behind);
        fault(5, text + behind + ";^" + line.substring(0, line.indexOf(' ')));
    }

    private static void thingsAndHarms() {
        sentence("I", "thing NAME WHOLE (its level at first, 0 .. 9; up to 5)");
        bounds(M + "thing a ", ";deed d adds a 1;plan p d", 0, 9);
        room(M, "thing # 1", "deed d adds xe 1;plan p d", 5);
        for (int level = 0; level <= 9; level++) {
            MistakesLent x = Check.loaded(M + "thing a " + level + ";thing b " + (9 - level) + ";deed d adds a 1;plan p d");
            Check.told(x, "its level at first", x.level(0, -2, 0, 0), level);
            Check.told(x, "the other one's", x.level(0, -2, 0, 1), 9 - level);
        }
        sentence("I", "harm THING HOW WHOLE costs WHOLE (HOW: over, or under; 0 .. 9; 1 .. 99; up to 6)");
        bounds(SMALL + ";harm a over ", " costs 1", 0, 9);
        bounds(SMALL + ";harm a under ", " costs 1", 0, 9);
        bounds(SMALL + ";harm a over 1 costs ", "", 1, 99);
        room(SMALL + ";", "harm a over 1 costs 1", "plan pb d", 6);
        fault(1, SMALL + ";harm a ^above 1 costs 1");
        fault(1, SMALL + ";harm a ^1 costs 1");
        fault(1, SMALL + ";harm a over 1 ^cost 1");
        for (int cost : new int[] {1, 99}) {
            MistakesLent x = Check.loaded(SMALL + ";harm a over 0 costs " + cost);
            Check.told(x, "what it costs", x.harm(0, -2, -2), cost);
        }
    }

    private static void deeds() {
        sentence("I", "deed NAME EFFECT {, EFFECT} {if THING HOW WHOLE} (EFFECT: adds, or takes, THING, WHOLE 1 .. 9; "
            + "one or two of unlike THINGS; the last part one or none; up to 8)");
        for (String effect : new String[] {"adds", "takes"}) {
            bounds(M + T + "deed up adds a 1;deed d " + effect + " a ", ";plan p d", 1, 9);
            bounds(M + T + "deed up adds a 1;deed d adds b 1," + effect + " a ", ";plan p d", 1, 9);
        }
        bounds(M + T + "deed d adds a 1 if a over ", ";plan p d", 0, 9);
        bounds(M + T + "deed d adds a 1,takes b 1 if b under ", ";plan p d", 0, 9);
        fault(1, M + T + "deed d^");
        fault(1, M + T + "deed d^;plan");
        fault(1, M + T + "deed d ^if a over 1");
        fault(1, M + T + "deed d ^a 1");
        fault(1, M + T + "deed d ^puts a 1");
        fault(1, M + T + "deed d adds a 1,^");
        fault(1, M + T + "deed d adds a 1,^if a over 1");
        fault(1, M + T + "deed d adds a 1 ^adds b 1");
        fault(3, M + T + "deed d adds a 1,adds ^a 1");
        fault(3, M + T + "deed d takes b 9,adds ^b 0");
        fault(5, M + T + "thing c 1;deed d adds a 1,adds b 1,^adds c 1");
        fault(1, M + T + "deed d adds a 1 if a over 1 ^if b over 1");
        fault(1, M + T + "deed d adds a 1 if a over 1^,takes b 1");
        fault(1, M + T + "deed d adds a 1 if ^1");
        room(M + T, "deed # adds a 1", "plan p xa,xh", 8);
    }

    private static void plansAndSlips() {
        sentence("I", "plan NAME DEED {, DEED} (1 to 6 of these; up to 4)");
        String steps = "up";
        for (int count = 1; count <= 6; count++) {
            MistakesLent x = Check.loaded(M + T + D + "plan p " + steps);
            Check.told(x, "the last step", x.step(0, count - 1), count % 2 == 0 ? 1 : 0);
            Check.refused(x, "a step behind it", x.step(0, count), 1);
            steps += count % 2 == 0 ? ",up" : ",dn";
        }
        fault(1, M + T + D + "plan p^");
        fault(1, M + T + D + "plan p^;slip");
        fault(1, M + T + D + "plan p ^,up");
        fault(1, M + T + D + "plan p up ^up");
        fault(5, M + T + D + "plan p up,up,up,up,up,up,^up");
        fault(5, M + T + D + "plan q dn;plan p dn,dn,dn,dn,dn,dn,^dn,dn");
        room(M + T + D, "plan # up", "slip s left up often 1", 4);
        sentence("I", "slip NAME MISTAKE often WHOLE (MISTAKE: left DEED, twice DEED, turned DEED, early DEED, or for DEED DEED, unlike; "
            + "1 .. 9; up to 7)");
        String[] mistakes = {"left up", "twice up", "turned up", "early up", "for up dn"};
        for (int i = 0; i < 5; i++) {
            bounds(M + T + D + P + "slip s " + mistakes[i] + " often ", "", 1, 9);
            MistakesLent x = Check.loaded(M + T + D + P + "slip s " + mistakes[i] + " often 9");
            Check.told(x, "its mistake", x.slip(0, 0), i);
        }
        fault(1, M + T + D + P + "slip s ^lost up often 1");
        fault(1, M + T + D + P + "slip s ^up often 1");
        fault(1, M + T + D + P + "slip s left ^;");
        fault(1, M + T + D + P + "slip s left up ^dn often 1");
        fault(3, M + T + D + P + "slip s for up ^up often 1");
        fault(3, M + T + D + P + "slip s for dn ^dn often 1");
        fault(2, M + T + D + P + "slip s for up ^often 1");
        right(M + T + D + P + "slip s for dn up often 1");
        room(M + T + D + P, "slip # left up often 1", "plan q up", 7);
    }

    private static void peopleAndAsks() {
        sentence("I", "person NAME KIND PLAN (KIND: grown, child, or donor; up to 4)");
        String[] kinds = {"grown", "child", "donor"};
        for (int i = 0; i < 3; i++) {
            MistakesLent x = Check.loaded(M + T + D + P + "person h " + kinds[i] + " p");
            Check.told(x, "his kind", x.person(0, 0), i);
        }
        fault(1, M + T + D + P + "person h ^adult p");
        fault(1, M + T + D + P + "person h ^p");
        fault(1, M + T + D + P + "person h grown^;person");
        room(M + T + D + P, "person # child p", "plan q up", 4);
        sentence("I", "asks PERSON SLIP pays WHOLE (once; 0 .. 99; up to 7)");
        bounds(M + T + D + P + S + H + "asks h s pays ", "", 0, 99);
        fault(1, M + T + D + P + S + H + "asks h s ^9");
        fault(1, M + T + D + P + S + H + "asks h s ^costs 9");
        fault(1, M + T + D + P + S + H + "asks h s pays ^;museum");
        fault(3, M + T + D + P + S + H + "asks h s pays 1;asks h ^s pays 2");
        right(M + T + D + P + S + H + "asks h s pays 1;asks i s pays 1;asks h t pays 1;asks i t pays 1");
        String seven = M + T + D + P + S + H + "person j donor p;person k donor p;asks h s pays 1;asks i s pays 1;asks j s pays 1;"
            + "asks k s pays 1;asks h t pays 1;asks i t pays 1;asks j t pays 1";
        right(seven);
        fault(5, seven + ";^asks k t pays 1");
        fault(5, seven + ";^asks");
    }

    private static void ends() {
        sentence("I", "ends PLAN WHOLE {, WHOLE} (0 .. 9, as many as THINGS told ahead, none is told behind; once)");
        bounds(SMALL + ";ends p ", "", 0, 9);
        bounds(M + T + D + P + "ends p 1,", "", 0, 9);
        bounds(M + T + D + P + "ends p ", ",1", 0, 9);
        String five = M + "thing a 0;thing b 1;thing c 2;thing d 3;thing e 4;deed up adds a 1;plan p up;ends p 1";
        fault(1, five + "^");
        fault(1, five + ",1^");
        fault(1, five + ",1,2,3^;");
        right(five + ",1,2,3,4");
        right(five + ",1,2,3,4;deed more adds e 1;plan q more;harm a over 1 costs 1;slip s left up often 1;person h grown p;asks h s pays 1");
        fault(1, five + ",1,2,3,4^,5");
        fault(1, five + ",1,2,3,4 ^5");
        fault(1, SMALL + ";ends p^");
        fault(1, SMALL + ";ends p ^,1");
        fault(1, SMALL + ";ends p 1^,1");
        fault(6, SMALL + ";ends p 1;^thing b 1");
        fault(3, SMALL + ";ends p 1;^ends p 1");
        fault(3, SMALL + ";ends p 1;plan q d;^ends q 1");
    }

    // ---- names

    private static void names() {
        sentence("I", "NAMES are WORDS but museum, thing, harm, deed, plan, slip, person, asks, ends, if");
        String[] telling = {M + "thing ^", M + T + "deed ^", M + T + D + "plan ^", M + T + D + P + "slip ^", M + T + D + P + "person ^"};
        String[] using = {M + T + "harm ^", M + T + "deed d adds ^", M + T + "deed d adds a 1,takes ^", M + T + "deed d adds a 1 if ^",
            M + T + D + "plan p ^", M + T + D + "plan p up,^", M + T + D + "slip s left ^", M + T + D + "slip s for ^",
            M + T + D + "slip s for up ^", M + T + D + P + "person h grown ^", M + T + D + P + S + H + "asks ^",
            M + T + D + P + S + H + "asks h ^", M + T + D + P + "ends ^"};
        for (String word : RESERVED) {
            for (String before : telling) {
                fault(1, before + word);
            }
            for (String before : using) {
                fault(1, before + word);
            }
        }
        for (String before : telling) {
            fault(1, before);
            fault(1, before + "1");
            fault(1, before + ";");
        }
        for (String before : using) {
            fault(1, before);
            fault(1, before + "1");
            fault(1, before + ",");
        }
        for (String word : FREE) {
            right(M + "thing " + word + " 1;harm " + word + " over 1 costs 1;deed d adds " + word + " 1 if " + word + " over 0;plan p d;ends p 1");
            right(M + T + D + "deed " + word + " adds a 1;plan p " + word + ",up;slip s for " + word + " up often 1;slip t for up " + word + " often 1");
            right(M + T + D + "plan " + word + " up;slip s left up often 1;person h grown " + word + ";asks h s pays 1;ends " + word + " 1,1");
            right(M + T + D + P + "slip " + word + " left up often 1;person h grown p;asks h " + word + " pays 1");
            right(M + T + D + P + "slip s left up often 1;person " + word + " grown p;asks " + word + " s pays 1");
        }
        sentence("I", "each told once, ahead of its use.");
        fault(2, M + "harm ^a over 1 costs 1;thing a 0");
        fault(2, M + T + "plan p ^up;deed up adds a 1");
        fault(2, M + T + D + "person h grown ^p;plan p up");
        fault(2, M + T + "slip s left ^up often 1;deed up adds a 1");
        fault(2, M + T + D + P + "person h grown p;asks h ^s pays 1;slip s left up often 1");
        fault(2, M + T + D + P + "slip s left up often 1;asks ^h s pays 1;person h grown p");
        fault(2, M + T + D + "ends ^p 1,1;plan p up");
        fault(2, M + T + "deed d adds ^d 1");
        fault(2, M + T + D + "plan p ^p");
        right(M + "thing a 0;deed up adds a 1;plan p up;thing b 1;deed dn takes b 1;plan q up,dn");
        sentence("I", "2 a NAME that isn't told, or is of another sort than must stand there; at it.");
        String told = M + T + D + P + S + H;
        String[][] places = {{"harm ^# over 1 costs 1", "a"}, {"deed d adds ^# 1", "a"}, {"deed d adds b 1,takes ^# 1", "a"},
            {"deed d adds b 1 if ^# over 1", "a"}, {"plan q ^#", "up"}, {"plan q dn,^#", "up"}, {"plan q dn,dn,dn,dn,dn,^#", "up"},
            {"slip u left ^# often 1", "up"}, {"slip u twice ^# often 1", "up"}, {"slip u turned ^# often 1", "up"},
            {"slip u early ^# often 1", "up"}, {"slip u for ^# dn often 1", "up"}, {"slip u for dn ^# often 1", "up"},
            {"person j grown ^#", "p"}, {"asks ^# s pays 1", "h"}, {"asks h ^# pays 1", "s"}, {"ends ^# 1,1", "p"}};
        for (String[] row : places) {
            for (String name : new String[] {"a", "up", "p", "s", "h", "x", "aa", "upp", "zzzzzzzz"}) {
                if (name.equals(row[1])) {
                    right(told + row[0].replace("^", "").replace("#", name));
                } else {
                    fault(2, told + row[0].replace("#", name));
                }
            }
        }
        sentence("I", "3 a NAME told again; at it");
        for (String name : new String[] {"a", "b", "up", "dn", "p", "s", "t", "h", "i"}) {
            fault(3, told + "thing ^" + name + " 1");
            fault(3, told + "deed ^" + name + " adds a 1");
            fault(3, told + "plan ^" + name + " up");
            fault(3, told + "slip ^" + name + " left up often 1");
            fault(3, told + "person ^" + name + " grown p");
        }
        right(told + "thing aa 1;deed upp adds a 1;plan pp up;slip ss left up often 1;person hh grown p");
    }

    // ---- faults

    private static void faultsInOrder() {
        sentence("I", "FAULTS, the first that is met from the left");
        fault(4, M + "thing a ^10;thing a 11;deed");
        fault(3, M + "thing a 1;thing ^a 11;harm x");
        fault(2, M + "thing a 1;harm ^x over 10;museum");
        fault(1, M + "thing a 1;harm a ^x 10;museum");
        fault(4, "museum weeks ^0 breaks 100 A");
        fault(1, "museum weeks 1 breaks ^100 fine 10");
        fault(4, M + "thing a 1;harm a over ^10 costs 0");
        fault(3, M + T + "deed d adds a 1,takes ^a 0");
        fault(4, M + T + "deed d adds a ^0,takes a 0");
        fault(6, "^thing a 10;" + SMALL);
        fault(3, M + "^museum weeks 0");
        fault(5, M + "thing a 1;thing b 1;thing c 1;thing d 1;thing e 1;^thing a 10");
        fault(1, M + "thing a^");
        sentence("I", "of one place the least number");
        fault(2, M + T + D + "plan p up,up,up,up,up,up,^x");
        fault(2, M + T + D + "plan p up,up,up,up,up,up,^a");
        fault(1, M + T + D + "plan p up,up,up,up,up,up,^slip");
        fault(1, M + T + D + "plan p up,up,up,up,up,up,^1");
        fault(1, M + T + "deed d adds a 1,adds b 1,^puts");
        fault(1, M + T + "deed d adds a 1,adds b 1,^if");
        fault(5, M + T + "thing c 1;thing d 1;thing e 1;" + D + P + "ends p 1,1,1,1,1;^thing f 1");
        fault(1, "^if a over 1;" + SMALL);
        fault(1, "^x;" + SMALL);
        fault(1, M + "thing ^if 10");
        fault(1, "museum weeks ^100");
        fault(1, M + "thing a 1;^");
        fault(1, M + "thing a^");
        fault(1, "museum weeks 1 breaks 0 fine 0 grown^");
    }

    /** Whether a text that is right so far may end behind a token: what follows is ; or an effect, a step, a need more. */
    private static boolean mayEnd(String text, int[] next) {
        String line = text.substring(text.lastIndexOf(';', next[0] - 1) + 1);
        char first = text.charAt(next[0]);
        return first == ';' || !line.startsWith("ends") && (first == ',' || text.startsWith("if", next[0]));
    }

    private static void form() {
        sentence("I", "1 FORM: the first byte that begins no TOKEN");
        List<int[]> tokens = tokensOf(ALL);
        for (int[] token : tokens) {
            for (int sign : new int[] {0, 10, 31, 33, 47, 58, 60, 64, 65, 90, 91, 96, 123, 127, 128, 255}) {
                Check.fault(1, ALL.substring(0, token[0]) + (char) sign + ALL.substring(token[0]), token[0]);
            }
        }
        for (int sign = 0; sign < 256; sign++) {
            if (sign != ' ') {
                fault(1, "  ^" + (char) sign);
            }
        }
        fault(1, ALL + "^A");
        fault(1, ALL + " ^A");
        sentence("I", "TOKEN with which no MUSEUM goes on (the end: its place)");
        for (int i = 1; i < tokens.size(); i++) {
            int end = tokens.get(i - 1)[1];
            String cut = ALL.substring(0, end);
            if (!mayEnd(ALL, tokens.get(i))) {
                Check.fault(1, cut, end);
                Check.fault(1, cut + "   ", end + 3);
            } else if (cut.contains("plan")) {
                right(cut);
                right(cut + "   ");
            } else {
                Check.fault(6, cut, end);
                Check.fault(6, cut + "   ", end + 3);
            }
            Check.fault(1, cut + " ,;", canComma(cut) ? end + 2 : end + 1);
        }
    }

    /** Whether an effect, a step or a level more may follow. */
    private static boolean canComma(String cut) {
        String line = cut.substring(cut.lastIndexOf(';') + 1);
        return line.matches("deed \\w+ (adds|takes) \\w+ [0-9]+(,(adds|takes) \\w+ [0-9]+)?")
            || line.matches("plan \\w+ \\w+(,\\w+)*") || line.matches("ends \\w+ [0-9]+");
    }

    private static void faultsTwoToFour() {
        sentence("I", "a second THING, DEED that is the first");
        for (String name : new String[] {"a", "b"}) {
            fault(3, M + T + "deed d adds " + name + " 1,adds ^" + name + " 1");
            fault(3, M + T + "deed d takes " + name + " 1,adds ^" + name);
        }
        right(M + T + "deed d adds a 1,adds b 1;deed e takes b 1,takes a 1 if a over 1;plan p d");
        fault(3, M + T + D + P + "slip s for up ^up");
        fault(3, M + T + D + P + "slip s for dn ^dn often 0");
        right(M + T + D + "plan p up,up,dn,up");
        sentence("I", "a SLIP that he asks for already; at it");
        fault(3, M + T + D + P + S + H + "asks h s pays 1;asks h ^s");
        fault(3, M + T + D + P + S + H + "asks h s pays 1;asks i s pays 1;asks h t pays 1;asks i ^s pays 1");
        fault(3, M + T + D + P + S + H + "asks h t pays 1;asks h s pays 1;asks i s pays 1;asks h ^t pays 100");
        right(M + T + D + P + S + H + "asks h s pays 1;asks h t pays 1;asks i t pays 1");
        sentence("I", "a second museum, ends: at that WORD.");
        fault(3, M + "^museum");
        fault(3, SMALL + ";^museum weeks 1 breaks 0 fine 0 grown 0");
        fault(3, SMALL + ";ends p 1;^ends");
        fault(3, SMALL + ";ends p 1;harm a over 1 costs 1;^ends p 1");
        right(SMALL + ";ends p 1");
        sentence("I", "4 a WHOLE out of bounds; at it.");
        fault(4, "museum weeks ^0");
        fault(4, "museum weeks ^4 breaks");
        fault(4, "museum weeks   ^99");
        fault(4, "museum weeks 1 breaks 0 fine ^10 grown");
        fault(4, M + "thing a ^10");
        fault(4, SMALL + ";harm a under ^10");
        fault(4, SMALL + ";harm a under 1 costs ^0");
        fault(4, SMALL + ";deed e adds a ^0");
        fault(4, SMALL + ";deed e adds a ^10");
        fault(4, SMALL + ";deed e adds a 1 if a over ^10");
        fault(4, SMALL + ";slip s left d often ^0");
        fault(4, SMALL + ";slip s left d often ^10");
        fault(4, SMALL + ";ends p ^10");
    }

    private static void faultsFiveAndSix() {
        sentence("I", "5 MANY: a LINE more of its sort than there is room for, at its first WORD");
        room(M, "thing # 0", "deed d adds xa 1;plan p d", 5);
        room(M + T, "harm a over 0 costs 1", D + "plan p up", 6);
        room(M + T, "deed # takes b 9", "plan p xa", 8);
        room(M + T + D, "plan # dn", "person h grown xd", 4);
        room(M + T + D + P, "slip # early up often 9", "person h grown p;asks h xg pays 1", 7);
        room(M + T + D + P, "person # donor p", "slip s left up often 1;asks xd s pays 0", 4);
        sentence("I", "a third EFFECT, a seventh DEED of a plan: at its first WORD.");
        fault(5, M + T + "thing c 0;deed d adds a 1,takes b 1,^takes c 1 if a over 1");
        fault(5, M + T + "deed d adds a 1,takes b 1,  ^adds x 0");
        fault(5, M + T + D + "plan p up,dn,up,dn,up,dn,  ^up,x");
        fault(5, M + T + D + "plan p up,dn,up,dn,up,dn,^dn");
        right(M + T + "deed d adds a 1,takes b 1 if a over 1;plan p d,d,d,d,d,d");
        sentence("I", "6 LACKS: any LINE ahead of the museum, a thing behind ends: at its WORD");
        for (int i = 1; i < 9; i++) {
            fault(6, "^" + RESERVED[i]);
            fault(6, "   ^" + RESERVED[i] + ";" + SMALL);
        }
        fault(6, SMALL + ";ends p 1;^thing");
        fault(6, SMALL + ";ends p 1;plan q d; ^thing a 10");
        right(SMALL + ";thing b 1;ends p 1,1;plan q d");
        sentence("I", "at the end: no thing, no plan.");
        fault(6, "museum weeks 1 breaks 0 fine 0 grown 0^");
        fault(6, "museum weeks 1 breaks 0 fine 0 grown 0   ^");
        fault(6, M + "thing a 0^");
        fault(6, M + "thing a 0;deed d adds a 1^");
        fault(6, M + "thing a 0;deed d adds a 1;slip s left d often 1;harm a over 0 costs 1 ^");
        right(SMALL);
    }

    // ---- promises 3 to 5

    /** A museum in which something was lent, brought back, cleaned and pictured. */
    private static MistakesLent used() {
        MistakesLent x = Check.loaded(SMALL + ";harm a over 0 costs 7;slip s twice d often 1;slip t left d often 2;slip u early d often 3;"
            + "person h grown p;person i grown p");
        x.lend(0, 0);
        x.bring(0, true);
        x.clean(1);
        x.week();
        x.week();
        x.image();
        x.lend(2, 1);
        return x;
    }

    private static void museumCall() {
        sentence("3", "The first n bytes of THE TAPE (it is empty then) are the MUSEUM from now on");
        MistakesLent x = new MistakesLent();
        Check.feed(x, SMALL + ";slip s left d often 1AAAAAAAAAAAAAAAAAAAA");
        Check.told(x, "what is behind them doesn't count", x.museum(SMALL.length()), 0);
        Check.due("the tape", x.size(15), 0);
        Check.refused(x, "it is empty", x.museum(1), 2);
        Check.feed(x, SMALL + ";slip s left d often 12");
        Check.told(x, "a WHOLE that is cut", x.museum(SMALL.length() + 22), 1);
        Check.due("how often", x.slip(0, 3), 1);
        Check.feed(x, SMALL + "ddd,d");
        Check.told(x, "a WORD that is cut", x.museum(SMALL.length()), 0);
        Check.refused(x, "its plan has one step", x.step(0, 1), 1);
        String whole = SMALL.replace("p d", "p d,d") + ";slip s left d often 9";
        while (whole.length() % 20 != 0) {
            whole += " ";
        }
        Check.told(x, "all bytes", Check.load(x, whole), 1);
        Check.due("its plan", x.step(0, 1), 0);
        MistakesLent a = new MistakesLent();
        String rich = SMALL.replace("p d", "p d,d") + ";harm a over 0 costs 9;slip s twice d often 9;slip t left d often 8;person h child p;asks h s pays 9;ends p 1";
        for (int i = 0; i < 3; i++) {
            Check.told(a, "one with much", Check.load(a, rich), 2);
            Check.told(a, "its lending", a.lending(), 0);
            Check.told(a, "what it makes", a.made(0), 0);
        }
        Check.told(a, "one with little", Check.load(a, SMALL + ";ends p 2"), 0);
        int[] little = {1, 0, 0, 0, 1, 1, 1, 0, 0, 0, 0};
        for (int what = 0; what < little.length; what++) {
            Check.due("size " + what, a.size(what), little[what]);
        }
        Check.told(a, "nothing of the one before: likeliest", a.likeliest(), -3);
        Check.told(a, "which", a.which(), 0);
        Check.told(a, "harm", a.harm(0, -2, -2), 0);
        Check.told(a, "worstTwo", a.worstTwo(0), 0);
        Check.told(a, "extreme", a.extreme(0, true), -2);
        Check.told(a, "lookMost", a.lookMost(0), 1);
        Check.told(a, "lending", a.lending(), 0);
        Check.refused(a, "worth", a.worth(0), 1);
        Check.refused(a, "its second step", a.step(0, 1), 1);
        Check.told(a, "one without ends", Check.load(a, SMALL), 0);
        Check.refused(a, "which", a.which(), 6);
        sentence("3", "(nothing lent, nothing cleaned, week 0, no HARM done; nothing to undo, no IMAGES): how many SLIPS.");
        MistakesLent y = used();
        Check.due("harm done", y.size(12), 7);
        String seven = SMALL + ";harm a over 0 costs 7";
        for (int i = 0; i <= 7; i++) {
            Check.told(y, "how many slips", Check.load(y, seven), i);
            int[] sizes = {0, 0, 0, 0, 0};
            for (int j = 0; j < 5; j++) {
                Check.due("size " + (11 + j), y.size(11 + j), sizes[j]);
            }
            for (int k = 0; k < i; k++) {
                Check.due("nothing lent", y.who(k), -2);
                Check.due("nothing cleaned", y.slip(k, 4), 0);
            }
            Check.due("none is out", Check.led(y, 0), -1);
            Check.due("none is overdue", y.overdue(), 0);
            Check.refused(y, "nothing to undo", y.undo(), 6);
            Check.refused(y, "no images", y.back(0), 1);
            y.week();
            y.image();
            seven += ";slip s" + (char) ('a' + i) + " left d often 1";
        }
        sentence("3", "NONE: 2 (THE TAPE stays)");
        for (int n : new int[] {-1, Integer.MIN_VALUE, 21, 22, 1000, 1001, Integer.MAX_VALUE}) {
            MistakesLent z = used();
            z.feed(1, 2, 3, 4, 5);
            String before = Check.stateOf(z);
            Check.refused(z, "museum(" + n + ")", z.museum(n), 2);
            Check.due("all stays", Check.stateOf(z).equals(before), true);
            Check.due("the tape", z.size(15), 20);
        }
        MistakesLent e = new MistakesLent();
        Check.refused(e, "an empty tape has not one byte", e.museum(1), 2);
        Check.refused(e, "no byte is no text", e.museum(0), 4);
        Check.due("no byte is no text: fault", e.fault(), 1);
        Check.due("no byte is no text: where", e.where(), 0);
        sentence("3", "4 (the MUSEUM stays).");
        for (String wrong : new String[] {"", "museum", "museum weeks 3 breaks 9 fine 9 grown 9", SMALL + ";", SMALL.replace("a 0", "a 10"),
            SMALL + ";slip x left d often 1;slip y twice d often 0"}) {
            MistakesLent z = used();
            String before = Check.stateOf(z);
            Check.refused(z, "museum of \"" + wrong + "\"", Check.load(z, wrong), 4);
            Check.due("all stays", Check.stateOf(z).equals(before), true);
            Check.due("the tape is empty", z.size(15), 0);
            Check.told(z, "its plans stay", z.harm(0, -2, -2), 7);
            Check.told(z, "its people stay", z.person(1, 1), 0);
            Check.told(z, "what can be undone stays", z.undo());
            Check.told(z, "its images stay", z.back(0));
        }
        MistakesLent f = new MistakesLent();
        Check.load(f, "museum");
        Check.refused(f, "no museum stays none", f.week(), 1);
    }

    private static void faultAndWhere() {
        sentence("4", "The FAULT of the latest museum() not refused by 2; 0 without one.");
        MistakesLent x = new MistakesLent();
        Check.due("none yet", x.fault(), 0);
        x.museum(-1);
        Check.due("none by 2", x.fault(), 0);
        String[] wrong = {"x", M + "harm x", M + "museum", "museum weeks 9", M + "thing a 1;thing b 1;thing c 1;thing d 1;thing e 1;thing", "thing"};
        for (int i = 0; i < 6; i++) {
            Check.load(x, wrong[i]);
            Check.due("fault", x.fault(), i + 1);
            x.week();
            x.undo();
            Check.due("fault behind other calls", x.fault(), i + 1);
            x.museum(1);
            Check.due("fault behind 2", x.fault(), i + 1);
        }
        Check.load(x, SMALL);
        Check.due("without one", x.fault(), 0);
        x.museum(1);
        Check.due("without one, behind 2", x.fault(), 0);
        sentence("5", "Its place, if the latest call that may be refused was by 4; NONE else.");
        MistakesLent y = new MistakesLent();
        Check.due("none yet", y.where(), -1);
        Check.load(y, "thing");
        Check.due("place 0", y.where(), 0);
        y.feed(1, 2, 3, 4, 5);
        y.fault();
        y.trouble();
        y.size(0);
        y.size(99);
        Check.led(y, 0);
        Check.due("calls that can't be refused", y.where(), 0);
        y.undo();
        Check.due("a call refused by another", y.where(), -1);
        y.museum(20);
        Check.due("place 0 again", y.where(), 0);
        y.museum(1);
        Check.due("by 2", y.where(), -1);
        Check.load(y, SMALL);
        Check.due("without a fault", y.where(), -1);
        Check.load(y, SMALL + ";");
        Check.due("the end", y.where(), SMALL.length() + 1);
        y.week();
        Check.due("a call that wasn't refused", y.where(), -1);
        String full = SMALL;
        while (full.length() < 1000) {
            full += " ";
        }
        Check.load(y, full.substring(0, 999) + "7");
        Check.due("the last byte", y.where(), 999);
        Check.load(y, (SMALL + ";" + full.substring(SMALL.length())).substring(0, 1000));
        Check.due("the end of a full tape", y.where(), 1000);
    }
}
