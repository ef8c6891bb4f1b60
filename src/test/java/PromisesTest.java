/** Each promise of the document, by answers worked out by hand. */
public final class PromisesTest {
    private static final int NONE = -1;

    private static final String KITCHEN = "museum weeks 2 breaks 9 fine 2 grown 10;thing fire 2;thing soup 0;thing salt 3;"
        + "deed boil adds fire 1, adds soup 4 if fire over 0;deed pinch takes salt 1, adds soup 1 if salt over 0;deed quench takes fire 5;"
        + "harm soup over 6 costs 5;harm fire over 2 costs 20;harm soup under 3 costs 8;plan lunch boil,pinch,quench;plan snack pinch,boil;"
        + "slip miss left pinch often 3;slip much twice boil often 7;slip back turned quench often 2;slip soon early pinch often 4;"
        + "slip wrong for boil quench often 1;person ann grown lunch;person bob child lunch;person cat donor snack;"
        + "asks ann much pays 7;asks bob back pays 9;asks cat much pays 50;asks bob miss pays 4;ends lunch 0,4,3";

    /** Plans 0 p, 1 q, 2 r, 3 s; slips 0 early, 1 turned, 2 twice, 3 for, 4 left. */
    private static final String LADDER = "museum weeks 2 breaks 7 fine 3 grown 4;thing a 5;thing b 0;"
        + "deed up adds a 1;deed dn takes a 2;deed bb adds b 3,takes a 1 if a over 2;harm a over 6 costs 10;harm b under 3 costs 4;"
        + "plan p up,dn,up;plan q up,up;plan r bb,bb,bb,bb;plan s up;"
        + "slip el early up often 5;slip tu turned up often 6;slip tw twice up often 6;slip fo for up dn often 1;slip lb left bb often 2";

    /** Slips 0 left up, 1 left dn, 2 twice up, 3 twice dn. */
    private static final String SEESAW = "museum weeks 1 breaks 0 fine 0 grown 0;thing a 5;deed up adds a 1;deed dn takes a 1;plan p up,dn;"
        + "slip lu left up often 3;slip ld left dn often 5;slip tu twice up often 6;slip td twice dn often 3";

    private static final String SMALL = "museum weeks 1 breaks 0 fine 0 grown 0;thing a 0;deed d adds a 1;plan p d";

    public static void main(String[] args) {
        p01();
        p02();
        p03();
        p04to05();
        p06to08();
        p09to10();
        p11to12();
        p13to16();
        p17to19();
        p20to22();
        p23to24();
        p25to27();
        p28to29();
        p30to32();
        p33to35();
        p36to40();
        p41to44();
        p45to47();
        Check.finish();
    }

    private static void due(String what, long got, long want) {
        Check.due(what, got, want);
    }

    private static void refused(MistakesLent x, String what, int got, int trouble) {
        due(what, got, NONE);
        due(what + ": trouble", x.trouble(), trouble);
    }

    private static void refused(MistakesLent x, String what, boolean got, int trouble) {
        refused(x, what, got ? 1 : NONE, trouble);
    }

    private static void told(MistakesLent x, String what, int got, int want) {
        due(what, got, want);
        due(what + ": trouble", x.trouble(), 0);
    }

    private static void told(MistakesLent x, String what, boolean got) {
        told(x, what, got ? 1 : 0, 1);
    }

    private static void p01() {
        MistakesLent x = new MistakesLent();
        for (int what = 0; what < 16; what++) {
            due("new: size " + what, x.size(what), 0);
        }
        due("new: trouble", x.trouble(), 0);
        due("new: fault", x.fault(), 0);
        due("new: where", x.where(), NONE);
        due("new: led", Check.led(x, 0), NONE);
        refused(x, "new: slip", x.slip(0, 0), 1);
        refused(x, "new: step", x.step(0, 0), 1);
        refused(x, "new: person", x.person(0, 0), 1);
        refused(x, "new: end", x.end(0, -2, -2, 0), 1);
        refused(x, "new: level", x.level(0, -2, 0, 0), 1);
        refused(x, "new: likeliest", x.likeliest(), 1);
        refused(x, "new: decade", x.decade(-1, -1), 1);
        refused(x, "new: overdue", x.overdue(), 1);
        refused(x, "new: image", x.image(), 1);
        refused(x, "new: lending", x.lending(), 1);
        refused(x, "new: back", x.back(0), 1);
        refused(x, "new: undo", x.undo(), 6);
        refused(x, "new: lend", x.lend(0, 0), 1);
        refused(x, "new: clean", x.clean(0), 1);
        refused(x, "new: bring", x.bring(0, true), 1);
    }

    private static void p02() {
        MistakesLent x = new MistakesLent();
        refused(x, "undo", x.undo(), 6);
        for (int i = 1; i <= 50; i++) {
            due("feed " + i, x.feed(0x20202020, 0x20202020, 0x20202020, 0x20202020, 0x20202020), 20L * i);
        }
        due("feed of a full tape", x.feed(1, 2, 3, 4, 5), NONE);
        due("a full tape", x.size(15), 1000);
        due("feed is no call that may be refused", x.trouble(), 6);
        refused(x, "blanks alone", x.museum(1000), 4);
        due("blanks alone: fault", x.fault(), 1);
        due("blanks alone: place", x.where(), 1000);
        x.feed(0x6d757365, 0x756d2020, 0x2020ff20, 0x20202020, 0x20202020);
        refused(x, "highest byte first", x.museum(20), 4);
        due("highest byte first: place", x.where(), 10);
    }

    private static void p03() {
        MistakesLent x = new MistakesLent();
        Check.feed(x, KITCHEN);
        int fed = x.size(15);
        refused(x, "museum(-1)", x.museum(-1), 2);
        refused(x, "museum of more than fed", x.museum(fed + 1), 2);
        due("the tape stays", x.size(15), fed);
        told(x, "museum", x.museum(KITCHEN.length()), 5);
        due("the tape is empty", x.size(15), 0);
        told(x, "lend", x.lend(0, 0));
        told(x, "clean", x.clean(4));
        told(x, "week", x.week(), 1);
        told(x, "image", x.image(), 0);
        Check.feed(x, "museum weeks 9");
        refused(x, "a fault", x.museum(14), 4);
        due("the tape is empty behind a fault", x.size(15), 0);
        due("the museum stays", x.size(7), 5);
        due("what is lent stays", x.who(0), 0);
        due("acts stay", x.size(13), 3);
        due("images stay", x.size(14), 1);
        refused(x, "museum(0)", x.museum(0), 4);
        due("an empty text", x.fault(), 1);
        due("an empty text: place", x.where(), 0);
        told(x, "the same again", Check.load(x, KITCHEN), 5);
        due("nothing lent", x.who(0), -2);
        due("nothing cleaned", x.slip(4, 4), 0);
        due("week 0", x.size(11), 0);
        due("nothing to undo", x.size(13), 0);
        due("no images", x.size(14), 0);
        refused(x, "undo", x.undo(), 6);
        told(x, "lend", x.lend(1, 0));
        told(x, "bring", x.bring(1, true), 5);
        told(x, "a museum without slips", Check.load(x, SMALL), 0);
        Check.feed(x, SMALL + ";ends p 12345678");
        told(x, "no byte behind the n-th counts", x.museum(SMALL.length() + 9), 0);
        due("no byte behind the n-th counts: ends", x.whichNone(), 1);
        Check.feed(x, SMALL + "dddddddd");
        told(x, "nor a letter", x.museum(SMALL.length()), 0);
        due("no harm done", x.size(12), 0);
        due("no people", x.size(8), 0);
    }

    private static void p04to05() {
        String[] rows = FAULTS.split("\n");
        for (String row : rows) {
            int number = row.charAt(0) - '0';
            String text = row.substring(2).replace("M;", "museum weeks 1 breaks 0 fine 0 grown 0;")
                .replace("T;", "thing a 0;thing b 9;").replace("D;", "deed up adds a 1;deed dn takes b 1;");
            int place = text.indexOf('^');
            text = text.replace("^", "");
            MistakesLent x = new MistakesLent();
            int answer = Check.load(x, text);
            due("museum \"" + text + "\" is refused", answer >= 0 ? 0 : 1, number == 0 ? 0 : 1);
            due("fault of \"" + text + "\"", x.fault(), number);
            due("where of \"" + text + "\"", x.where(), number == 0 ? NONE : place);
        }
        MistakesLent x = new MistakesLent();
        Check.load(x, "thing");
        due("fault", x.fault(), 6);
        due("where", x.where(), 0);
        x.feed(1, 1, 1, 1, 1);
        x.size(3);
        due("where behind calls that can't be refused", x.where(), 0);
        refused(x, "museum(-1)", x.museum(-1), 2);
        due("where behind another trouble", x.where(), NONE);
        due("fault stays behind 2", x.fault(), 6);
        x.museum(0);
        Check.load(x, SMALL);
        due("fault without one", x.fault(), 0);
        due("where without one", x.where(), NONE);
    }

    /** The fault's number (0 none) and the text, its place marked by ^; M; T; D; stand for lines that are right. */
    private static final String FAULTS = String.join("\n",
        "0 M;T;D;plan p up",
        "0   museum weeks 3 breaks 99 fine 9 grown 99 ; thing a 9;deed d adds a9;plan p d,d , d,d,d,d;ends p 0  ",
        "0 museum weeks 01 breaks 00 fine 09 grown 0;thing a 05;deed d takes a 1 if a under 9;plan p d",
        "0 M;thing over 1;thing adds 2;deed takes adds over 1,takes adds 1 if over over 0;plan left takes;slip for left takes often 1",
        "0 M;thing abcdefgh 1;deed d adds abcdefgh 1;plan p d",
        "1 ^",
        "1    ^",
        "1 ^;",
        "1 ^Museum",
        "1 ^lines",
        "1 ^12",
        "1 ^if",
        "1 museum^",
        "1 museum ^1",
        "1 museum weeks^",
        "1 museum weeks ^one",
        "1 museum weeks ^001",
        "1 museum weeks 1 ^;",
        "1 museum weeks 1 ^fine 0",
        "4 museum weeks ^0",
        "4 museum weeks ^4",
        "1 museum weeks 1 breaks ^100",
        "4 museum weeks 1 breaks 0 fine ^10",
        "1 museum weeks 1 breaks 0 fine 0 grown^",
        "1 museum weeks 1 breaks 0 fine 0 grown ^;museum",
        "1 museum weeks 1 breaks 0 fine 0 grown 0 ^0",
        "1 museum weeks 1 breaks 0 fine 0 grown 0,^".replace(",^", "^,"),
        "6 museum weeks 1 breaks 0 fine 0 grown 0^",
        "1 M;^",
        "1 M;  ^;",
        "1 M;T;D;plan p up;^",
        "6 M;thing a 0^",
        "6 M;T;D;slip s left up often 1  ^",
        "6 ^thing a 0;M;",
        "6 ^ends",
        "3 M;^museum",
        "1 M;thing^",
        "1 M;thing ^7",
        "1 M;thing ^if 1",
        "1 M;thing ^museum 1",
        "1 M;thing ^ends 1",
        "1 M;thing ^abcdefghi 1",
        "1 M;thing a ^b",
        "4 M;thing a ^10",
        "3 M;thing a 1;thing ^a 1",
        "3 M;thing a 1;deed ^a",
        "3 M;T;D;plan ^up",
        "3 M;T;D;plan p up;slip ^p",
        "3 M;T;D;plan p up;person ^a",
        "5 M;thing a 1;thing b 1;thing c 1;thing d 1;thing e 1;^thing f 1",
        "2 M;harm ^a",
        "2 M;T;harm ^c over 1",
        "2 M;T;D;harm ^up over 1",
        "1 M;T;harm ^plan",
        "1 M;T;harm ^museum",
        "1 M;T;harm a ^above 1",
        "4 M;T;harm a over ^10 costs 1",
        "1 M;T;harm a over 1 ^cost 1",
        "4 M;T;harm a over 1 costs ^0",
        "5 M;T;harm a over 1 costs 1;harm a over 1 costs 1;harm a over 1 costs 1;harm a over 1 costs 1;harm a over 1 costs 1;"
            + "harm b under 1 costs 99;^harm a over 1 costs 1",
        "1 M;T;deed d ^if",
        "1 M;T;deed d ^puts a 1",
        "2 M;T;deed d adds ^c 1",
        "2 M;T;deed d adds ^d 1",
        "1 M;T;deed d adds ^1",
        "4 M;T;deed d adds a ^0",
        "4 M;T;deed d adds a ^10",
        "3 M;T;deed d adds a 1,takes ^a 1",
        "1 M;T;deed d adds a 1,^if",
        "1 M;T;deed d adds a 1 ^adds b 1",
        "5 M;T;deed d adds a 1,adds b 1,^takes",
        "1 M;T;deed d adds a 1,adds b 1,^a",
        "1 M;T;deed d adds a 1,adds b 1,^",
        "2 M;T;deed d adds a 1 if ^d over 1",
        "1 M;T;deed d adds a 1 if a ^adds 1",
        "4 M;T;deed d adds a 1 if a over ^10",
        "1 M;T;deed d adds a 1 if a over 1^,",
        "1 M;T;deed d adds a 1 if a over 1 ^if",
        "5 M;T;deed c adds a 1;deed d adds a 1;deed e adds a 1;deed f adds a 1;deed g adds a 1;deed h adds a 1;deed i adds a 1;deed j adds a 1;"
            + "^deed k adds a 1",
        "1 M;T;D;plan p^",
        "1 M;T;D;plan p^;",
        "2 M;T;D;plan p ^a",
        "2 M;T;D;plan p ^p",
        "1 M;T;D;plan p up,^slip",
        "1 M;T;D;plan p up ^dn",
        "5 M;T;D;plan p up,up,up,up,up,up,^up",
        "2 M;T;D;plan p up,up,up,up,up,up,^u",
        "1 M;T;D;plan p up,up,up,up,up,up,^",
        "5 M;T;D;plan p up;plan q up;plan r up;plan s up;^plan t up",
        "1 M;T;D;slip s ^lost up",
        "2 M;T;D;slip s left ^a",
        "1 M;T;D;slip s left up ^dn often 1",
        "2 M;T;D;slip s for up ^often 1",
        "3 M;T;D;slip s for up ^up often 1",
        "1 M;T;D;slip s for up dn ^1",
        "1 M;T;D;slip s for up dn ^aften 1",
        "1 M;T;D;slip s for up dn ^oftem 1",
        "1 M;T;D;slip s for up dn ^oftenx 1",
        "1 M;T;D;slip s for up dn ^ofte 1",
        "4 M;T;D;slip s for up dn often ^0",
        "4 M;T;D;slip s for up dn often ^10",
        "5 M;T;D;slip s left up often 1;slip t left up often 1;slip u left up often 1;slip v left up often 1;slip w left up often 1;"
            + "slip x left up often 1;slip y left up often 9;^slip z left up often 1",
        "1 M;T;D;plan p up;person x ^adult p",
        "2 M;T;D;plan p up;person x grown ^up",
        "5 M;T;D;plan p up;person w grown p;person x child p;person y donor p;person z donor p;^person v grown p",
        "2 M;T;D;plan p up;asks ^x",
        "2 M;T;D;plan p up;person x grown p;asks x ^x",
        "1 M;T;D;plan p up;slip s left up often 1;person x grown p;asks x s ^1",
        "1 M;T;D;plan p up;slip s left up often 1;person x grown p;asks x s pays ^;thing a 1;",
        "4 M;T;D;plan p up;slip s left up often 1;person x grown p;asks x s pays 99;slip t left up often 1;asks x t pays 0;thing c ^10",
        "3 M;T;D;plan p up;slip s left up often 1;person x grown p;asks x s pays 9;asks x ^s pays 1",
        "0 M;T;D;plan p up;slip s left up often 1;person x grown p;person y grown p;asks x s pays 9;asks y s pays 1",
        "5 M;T;D;plan p up;slip s left up often 1;slip t left up often 1;person w grown p;person x grown p;person y grown p;person z grown p;"
            + "asks w s pays 1;asks x s pays 1;asks y s pays 1;asks z s pays 1;asks w t pays 1;asks x t pays 1;asks y t pays 1;^asks z t pays 1",
        "2 M;T;D;plan p up;ends ^up 1,1",
        "1 M;T;D;plan p up;ends p ^,1",
        "1 M;T;D;plan p up;ends p 1^",
        "1 M;T;D;plan p up;ends p 1^;",
        "1 M;T;D;plan p up;ends p 1 ^1",
        "1 M;T;D;plan p up;ends p 1,1^,1",
        "4 M;T;D;plan p up;ends p 1,^10",
        "0 M;T;D;plan p up;ends p 1,9;deed ex adds a 1",
        "3 M;T;D;plan p up;ends p 1,1;^ends p 1,1",
        "6 M;T;D;plan p up;ends p 1,1;^thing c 1",
        "5 M;T;thing c 1;thing d 1;thing e 1;D;plan p up;ends p 1,1,1,1,1;^thing f 1",
        "1 M;T;D;plan p up;ends p 1,1;^thin c 1",
        "1 M;T^T;".replace("T^T;", "thing a 0^.thing b 1"));

    private static void p06to08() {
        MistakesLent x = Check.loaded(KITCHEN);
        int[][] slips = {{0, 1, -2, 3, 0}, {1, 0, -2, 7, 0}, {2, 2, -2, 2, 0}, {3, 1, -2, 4, 0}, {4, 0, 2, 1, 0}};
        for (int k = 0; k < 5; k++) {
            for (int what = 0; what < 5; what++) {
                told(x, "slip " + k + " " + what, x.slip(k, what), slips[k][what]);
            }
        }
        refused(x, "slip -1", x.slip(-1, 0), 1);
        refused(x, "slip -2", x.slip(-2, 0), 1);
        refused(x, "slip 5", x.slip(5, 0), 1);
        refused(x, "slip what 5", x.slip(0, 5), 1);
        refused(x, "slip what -1", x.slip(0, -1), 1);
        told(x, "clean 2", x.clean(2));
        told(x, "slip is cleaned", x.slip(2, 4), 1);
        told(x, "a cleaned slip's deed", x.slip(2, 1), 2);
        int[][] plans = {{0, 1, 2}, {1, 0}};
        for (int plan = 0; plan < 2; plan++) {
            for (int i = 0; i < plans[plan].length; i++) {
                told(x, "step", x.step(plan, i), plans[plan][i]);
            }
            refused(x, "step behind", x.step(plan, plans[plan].length), 1);
            refused(x, "step ahead", x.step(plan, -1), 1);
        }
        refused(x, "step of no plan", x.step(2, 0), 1);
        refused(x, "step of plan -1", x.step(-1, 0), 1);
        int[][] people = {{0, 0}, {1, 0}, {2, 1}};
        for (int p = 0; p < 3; p++) {
            told(x, "person kind", x.person(p, 0), people[p][0]);
            told(x, "person plan", x.person(p, 1), people[p][1]);
        }
        refused(x, "person 3", x.person(3, 0), 1);
        refused(x, "person -1", x.person(-1, 0), 1);
        refused(x, "person what", x.person(0, 2), 1);
        refused(x, "person what -1", x.person(0, -1), 1);
    }

    private static void p09to10() {
        MistakesLent x = Check.loaded(LADDER);
        told(x, "p", x.end(0, -2, -2, 0), 5);
        told(x, "p early", x.end(0, 0, -2, 0), 5);
        told(x, "p turned", x.end(0, 1, -2, 0), 3);
        told(x, "p turned, turned back", x.end(0, 1, 1, 0), 5);
        told(x, "p twice", x.end(0, 2, -2, 0), 6);
        told(x, "p for", x.end(0, 3, -2, 0), 2);
        told(x, "p with one that doesn't fit", x.end(0, 4, -2, 0), 5);
        told(x, "p with the other alone", x.end(0, -2, 2, 0), 6);
        told(x, "p turned, then early: the turned one stays so", x.end(0, 1, 0, 0), 3);
        told(x, "s twice, then the first turned", x.end(3, 2, 1, 0), 5);
        told(x, "s turned, then twice: both turned", x.end(3, 1, 2, 0), 3);
        told(x, "s turned, then another: not turned", x.end(3, 1, 3, 0), 3);
        told(x, "s another, then turned: doesn't fit", x.end(3, 3, 1, 0), 3);
        told(x, "s early doesn't fit", x.end(3, 0, -2, 0), 6);
        told(x, "s twice twice", x.end(3, 2, 2, 0), 8);
        told(x, "s twice: early fits then", x.end(3, 2, 0, 0), 7);
        told(x, "r broke", x.end(2, -2, -2, 1), 9);
        told(x, "r broke: the step did nothing", x.end(2, -2, -2, 0), 2);
        refused(x, "end of no plan", x.end(4, -2, -2, 0), 1);
        refused(x, "end with slip -1", x.end(0, -1, -2, 0), 1);
        refused(x, "end with slip 5", x.end(0, 5, -2, 0), 1);
        refused(x, "end with other -3", x.end(0, 0, -3, 0), 1);
        refused(x, "end with other 5", x.end(0, 0, 5, 0), 1);
        refused(x, "end of no thing", x.end(0, 0, 0, 2), 1);
        refused(x, "end of thing -1", x.end(0, 0, 0, -1), 1);
        told(x, "p behind 0", x.level(0, 0, 0, 0), 5);
        told(x, "p early behind 2", x.level(0, 0, 2, 0), 7);
        told(x, "p behind 2", x.level(0, -2, 2, 0), 4);
        told(x, "s twice behind 1", x.level(3, 2, 1, 0), 6);
        told(x, "p twice behind 3", x.level(0, 2, 3, 0), 5);
        told(x, "r behind 4 broke", x.level(2, -2, 4, 1), 9);
        told(x, "r left behind 4 is shorter", x.level(2, 4, 4, 1), 9);
        refused(x, "level behind more", x.level(3, 2, 2, 0), 2);
        refused(x, "level behind -1", x.level(3, 2, -1, 0), 2);
        refused(x, "level of no plan", x.level(4, 2, -1, 0), 1);
        refused(x, "level with no slip", x.level(3, 5, 9, 0), 1);
        refused(x, "level of no thing", x.level(3, 2, 9, 2), 1);
        MistakesLent t = Check.loaded("museum weeks 1 breaks 0 fine 0 grown 0;thing a 0;deed x takes a 2;deed y adds a 1;plan p x,y;"
            + "slip tx turned x often 1;slip ey early y often 1;slip ly left y often 1");
        told(t, "a turned step changes places", t.end(0, 0, 1, 0), 3);
        told(t, "what was early is turned", t.end(0, 1, 0, 0), 3);
        told(t, "a turned step stays when another is left out", t.end(0, 0, 2, 0), 2);
        MistakesLent y = Check.loaded("museum weeks 1 breaks 0 fine 0 grown 0;thing a 8;deed up adds a 9;deed dn takes a 9;plan p up;plan q dn;"
            + "slip tu turned up often 1");
        told(y, "not above 9", y.end(0, -2, -2, 0), 9);
        told(y, "not below 0", y.end(1, -2, -2, 0), 0);
        told(y, "turned, not below 0", y.end(0, 0, -2, 0), 0);
    }

    private static void p11to12() {
        MistakesLent x = Check.loaded(LADDER);
        told(x, "r breaks", x.breaks(2, -2, -2), 3);
        told(x, "r left", x.breaks(2, 4, -2), -2);
        told(x, "p doesn't", x.breaks(0, 1, 2), -2);
        refused(x, "breaks of no plan", x.breaks(-1, -2, -2), 1);
        refused(x, "breaks with no slip", x.breaks(0, 7, -2), 1);
        refused(x, "breaks with no other", x.breaks(0, -2, -1), 1);
        told(x, "harm p", x.harm(0, -2, -2), 4);
        told(x, "harm q", x.harm(1, -2, -2), 14);
        told(x, "harm q turned", x.harm(1, 1, -2), 4);
        told(x, "harm r", x.harm(2, -2, -2), 7);
        told(x, "harm r left", x.harm(2, 4, -2), 0);
        told(x, "harm r left left", x.harm(2, 4, 4), 0);
        told(x, "harm s", x.harm(3, -2, -2), 4);
        told(x, "harm s twice", x.harm(3, 2, -2), 14);
        refused(x, "harm of no plan", x.harm(4, -2, -2), 1);
        refused(x, "harm with no slip", x.harm(0, -1, -2), 1);
        refused(x, "harm with no other", x.harm(0, -2, 5), 1);
        MistakesLent y = Check.loaded(KITCHEN);
        told(y, "breaks by two, counted with them", y.breaks(0, 1, 4), 1);
        told(y, "harm by two", y.harm(0, 1, 4), 17);
        MistakesLent z = Check.loaded("museum weeks 1 breaks 7 fine 0 grown 0;thing a 3;deed o takes a 1 if a over 3;deed u takes a 1 if a under 3;"
            + "deed v takes a 1 if a under 4;deed w takes a 1 if a over 2;plan p o;plan q u;plan r v;plan s w");
        told(z, "3 is not over 3", z.breaks(0, -2, -2), 0);
        told(z, "3 is not under 3", z.breaks(1, -2, -2), 0);
        told(z, "3 is under 4", z.breaks(2, -2, -2), -2);
        told(z, "3 is over 2", z.breaks(3, -2, -2), -2);
        told(z, "a break costs", z.harm(0, -2, -2), 7);
    }

    private static void p13to16() {
        MistakesLent x = Check.loaded(LADDER);
        int[] fits = {3, 11, 11, 11, 4};
        for (int k = 0; k < 5; k++) {
            told(x, "fits " + k, x.fits(k), fits[k]);
        }
        refused(x, "fits -2", x.fits(-2), 1);
        refused(x, "fits 5", x.fits(5), 1);
        int[] harmless = {15, 15, 16, 10};
        int[] good = {0, 10, 16, 0};
        int[] least = {0, 1, 4, 1};
        int[] most = {0, 0, 4, 2};
        for (int plan = 0; plan < 4; plan++) {
            told(x, "harmless " + plan, x.harmless(plan), harmless[plan]);
            told(x, "good " + plan, x.good(plan), good[plan]);
            told(x, "least " + plan, x.extreme(plan, false), least[plan]);
            told(x, "most " + plan, x.extreme(plan, true), most[plan]);
        }
        for (int plan : new int[] {-1, 4}) {
            refused(x, "harmless of no plan", x.harmless(plan), 1);
            refused(x, "good of no plan", x.good(plan), 1);
            refused(x, "extreme of no plan", x.extreme(plan, true), 1);
        }
        told(x, "clean", x.clean(4));
        told(x, "a cleaned one fits none", x.fits(4), 0);
        told(x, "none fits: least", x.extreme(2, false), -2);
        told(x, "none fits: most", x.extreme(2, true), -2);
        told(x, "none fits: harmless", x.harmless(2), 0);
    }

    private static void p17to19() {
        MistakesLent x = Check.loaded(SEESAW);
        told(x, "cancels", x.cancels(0), 2);
        told(x, "cancel 0", x.cancel(0, 0), 1);
        told(x, "cancel 1", x.cancel(0, 1), 23);
        refused(x, "cancel 2", x.cancel(0, 2), 1);
        refused(x, "cancel -1", x.cancel(0, -1), 1);
        refused(x, "cancel of no plan", x.cancel(1, 0), 1);
        refused(x, "cancels of no plan", x.cancels(-1), 1);
        told(x, "clean", x.clean(0));
        told(x, "cancels without the cleaned", x.cancels(0), 1);
        told(x, "cancel 0 then", x.cancel(0, 0), 23);
        MistakesLent y = Check.loaded(LADDER);
        told(y, "a slip that doesn't change the end cancels nothing", y.cancels(2), 0);
        told(y, "worstTwo s", y.worstTwo(3), 14);
        told(y, "worstTwo r", y.worstTwo(2), 0);
        told(y, "clean", y.clean(4));
        told(y, "worstTwo of none", y.worstTwo(2), 7);
        refused(y, "worstTwo of no plan", y.worstTwo(4), 1);
        MistakesLent z = Check.loaded(SMALL + ";harm a over 2 costs 8;slip s twice d often 1");
        told(z, "one of them twice", z.worstTwo(0), 8);
        MistakesLent o = Check.loaded("museum weeks 1 breaks 0 fine 0 grown 0;thing a 5;deed up adds a 1;deed dn takes a 1;plan p up;"
            + "harm a under 4 costs 3;slip tw twice up often 1;slip tu turned up often 1");
        told(o, "the order in which it harms", o.worstTwo(0), 3);
    }

    private static void p20to22() {
        MistakesLent x = Check.loaded(KITCHEN);
        told(x, "which", x.which(), 1);
        told(x, "whichNone", x.whichNone(), 0);
        told(x, "likeliest", x.likeliest(), 0);
        String[] ends = {";ends p 5,0", ";ends p 9,9", ";ends s 3,0", ";ends r 2,9"};
        int[] which = {1, 0, 8, 16};
        int[] none = {1, 0, 0, 1};
        int[] likeliest = {-2, -3, 3, -2};
        for (int i = 0; i < ends.length; i++) {
            MistakesLent y = Check.loaded(LADDER + ends[i]);
            told(y, "which" + ends[i], y.which(), which[i]);
            told(y, "whichNone" + ends[i], y.whichNone(), none[i]);
            told(y, "likeliest" + ends[i], y.likeliest(), likeliest[i]);
        }
        MistakesLent s = Check.loaded(SEESAW + ";ends p 6");
        told(s, "ld and tu", s.which(), 6);
        told(s, "tu comes most often", s.likeliest(), 2);
        told(s, "clean", s.clean(2));
        told(s, "tu is cleaned", s.which(), 2);
        told(s, "then ld", s.likeliest(), 1);
        MistakesLent t = Check.loaded(SEESAW + ";ends p 4");
        told(t, "lu and td", t.which(), 9);
        told(t, "of like ones the first", t.likeliest(), 0);
        MistakesLent u = Check.loaded(SEESAW.replace("a 5", "a 9") + ";ends p 8");
        told(u, "up to 9 and down", u.which(), 5);
        told(u, "none too", u.whichNone(), 1);
        told(u, "tu comes more often than none", u.likeliest(), 2);
        MistakesLent v = Check.loaded(SMALL);
        refused(v, "which without ends", v.which(), 6);
        refused(v, "whichNone without ends", v.whichNone(), 6);
        refused(v, "likeliest without ends", v.likeliest(), 6);
        MistakesLent w = new MistakesLent();
        refused(w, "which without a museum", w.which(), 1);
        refused(w, "whichNone without a museum", w.whichNone(), 1);
        refused(w, "likeliest without a museum", w.likeliest(), 1);
    }

    private static void p23to24() {
        MistakesLent x = Check.loaded(LADDER);
        told(x, "look s", x.look(3), 10);
        told(x, "lookMost s", x.lookMost(3), 2);
        told(x, "look r", x.look(2), 0);
        told(x, "lookMost r", x.lookMost(2), 2);
        told(x, "clean", x.clean(4));
        told(x, "look r, none fits", x.look(2), 0);
        told(x, "lookMost r, none fits", x.lookMost(2), 1);
        refused(x, "look of no plan", x.look(4), 1);
        refused(x, "lookMost of no plan", x.lookMost(-1), 1);
        MistakesLent y = Check.loaded(KITCHEN);
        told(y, "look lunch", y.look(0), 20);
        told(y, "lookMost lunch", y.lookMost(0), 3);
        told(y, "look snack", y.look(1), 21);
        told(y, "lookMost snack", y.lookMost(1), 2);
    }

    private static void p25to27() {
        MistakesLent x = Check.loaded(LADDER);
        int[] bears = {1, 1, 1, 0};
        int[] made = {0, 0, 0, 1};
        for (int plan = 0; plan < 4; plan++) {
            told(x, "bears " + plan, x.bears(plan), bears[plan]);
            told(x, "made " + plan, x.made(plan), made[plan]);
            refused(x, "madeAt behind", x.madeAt(plan, made[plan]), 1);
            refused(x, "madeAt ahead", x.madeAt(plan, -1), 1);
        }
        told(x, "madeAt s", x.madeAt(3, 0), 1);
        told(x, "clean", x.clean(2));
        told(x, "bears s then", x.bears(3), 1);
        told(x, "made s then", x.made(3), 0);
        told(x, "undo", x.undo());
        told(x, "made s again", x.made(3), 1);
        refused(x, "bears of no plan", x.bears(4), 1);
        refused(x, "made of no plan", x.made(-1), 1);
        refused(x, "madeAt of no plan", x.madeAt(4, 0), 1);
        String jumps = "museum weeks 1 breaks 0 fine 0 grown 0;thing a 0;deed up adds a 1;deed dn takes a 1;deed jump adds a 3;"
            + "harm a over 1 costs 3;plan p up;slip s for up jump often 1";
        MistakesLent y = Check.loaded(jumps);
        told(y, "made by two", y.made(0), 2);
        told(y, "the first of two", y.madeAt(0, 0), 11);
        told(y, "the second of two", y.madeAt(0, 1), 11);
        refused(y, "the third of two", y.madeAt(0, 2), 1);
        MistakesLent z = Check.loaded(jumps.replace("jump adds a 3", "jump adds a 9"));
        told(z, "two aren't enough", z.made(0), -2);
        refused(z, "madeAt if two aren't enough", z.madeAt(0, 0), 1);
        MistakesLent u = Check.loaded("museum weeks 1 breaks 0 fine 0 grown 0;thing a 0;deed up adds a 1;deed boom adds a 9;deed dn takes a 9;"
            + "harm a over 1 costs 3;plan p up;slip s twice up often 1");
        told(u, "not by more harm without", u.made(0), 1);
        told(u, "not by more harm without: where", u.madeAt(0, 0), 12);
        MistakesLent f = Check.loaded(jumps.replace("deed up adds a 1;deed dn takes a 1;", "deed dn takes a 1;deed up adds a 1;"));
        told(f, "the first of two by the first deed", f.madeAt(0, 0), 10);
        told(f, "the second of two by the first deed", f.madeAt(0, 1), 10);
        MistakesLent g = Check.loaded("museum weeks 1 breaks 0 fine 0 grown 0;thing a 0;thing b 0;deed x adds b 1;deed up adds a 1 if b under 2;"
            + "harm a over 1 costs 3;plan p up;slip s twice up often 1");
        told(g, "both ahead of all", g.made(0), 2);
        told(g, "the first ahead of all", g.madeAt(0, 0), 0);
        told(g, "the second ahead of all", g.madeAt(0, 1), 0);
        String last = "museum weeks 1 breaks 5 fine 0 grown 0;thing a 0;thing b 0;deed up adds a 1;deed jump adds a 3;deed x adds b 1;"
            + "deed y takes a 9 if b over 0;harm a over 1 costs 3;plan p up;slip s for up jump often 1";
        MistakesLent v = Check.loaded(last);
        told(v, "the first, asked for at once", v.madeAt(0, 0), 2);
        told(v, "the second behind all", v.madeAt(0, 1), 23);
        told(v, "another museum", Check.load(v, last.replace("deed y takes a 9 if b over 0;", "")), 1);
        told(v, "made anew, not by deeds of the one before", v.made(0), -2);
        MistakesLent w = Check.loaded(jumps.replace("jump adds a 3", "jump adds a 9") + ";deed e adds a 1;deed f adds a 1;deed g adds a 1;"
            + "deed h adds a 1;deed i adds a 1");
        told(w, "eight deeds", w.made(0), -2);
    }

    private static void p28to29() {
        String two = "museum weeks 1 breaks 0 fine 0 grown 0;thing a 0;deed x adds a 1;deed y adds a 2;plan p x;plan q y;";
        String slips = "slip lx left x often 1;slip ly left y often 1";
        MistakesLent x = Check.loaded(two + slips);
        told(x, "both plans", x.apart(), 3);
        told(x, "no copies", x.copies(), 0);
        MistakesLent y = Check.loaded(two + "plan r x,y;plan t y,x;" + slips);
        told(y, "one is enough, the first such", y.apart(), 4);
        told(y, "clean", y.clean(0));
        told(y, "least bits", y.apart(), 2);
        MistakesLent z = Check.loaded(SMALL);
        told(z, "nothing to tell apart", z.apart(), 0);
        told(z, "no slips, no copies", z.copies(), 0);
        MistakesLent c = Check.loaded(two + slips + ";slip lxx left x often 9;slip ex early x often 1;slip ey early y often 2");
        told(c, "copies, those that never fit are alike too", c.copies(), 4 + 16);
        told(c, "copies needn't be told apart", c.apart(), 3);
        MistakesLent n = new MistakesLent();
        refused(n, "apart without a museum", n.apart(), 1);
        refused(n, "copies without a museum", n.copies(), 1);
    }

    private static void p30to32() {
        MistakesLent x = Check.loaded(KITCHEN);
        int[] worth = {17, -2, 50, 4};
        int[] weeks = {0, -2, 1, 0};
        for (int ask = 0; ask < 4; ask++) {
            told(x, "worth " + ask, x.worth(ask), worth[ask]);
            told(x, "weekOf " + ask, x.weekOf(ask), weeks[ask]);
        }
        told(x, "lending", x.lending(), 71);
        told(x, "clean much", x.clean(1));
        told(x, "worth of a cleaned one", x.worth(0), -2);
        told(x, "lending then", x.lending(), 4);
        told(x, "weekOf then", x.weekOf(2), -2);
        told(x, "undo", x.undo());
        told(x, "lending again", x.lending(), 71);
        for (int ask : new int[] {-1, 4}) {
            refused(x, "worth of none", x.worth(ask), 1);
            refused(x, "weekOf none", x.weekOf(ask), 1);
        }
        String start = "museum weeks 1 breaks 0 fine 0 grown 0;thing a 0;deed d adds a 1;plan p d;slip s left d often 1;slip t twice d often 1;"
            + "person h grown p;person i grown p;";
        int[][] rows = {{5, 5, 5, 0, -2}, {5, 6, 6, -2, 0}, {0, 0, 0, 0, -2}};
        for (int[] row : rows) {
            MistakesLent y = Check.loaded(start + "asks h s pays " + row[0] + ";asks h t pays " + row[1]);
            told(y, "nobody twice in a week", y.lending(), row[2]);
            told(y, "the one", y.weekOf(0), row[3]);
            told(y, "the other", y.weekOf(1), row[4]);
        }
        MistakesLent z = Check.loaded(start + "asks h s pays 3;asks i s pays 4;asks i t pays 2;asks h t pays 1");
        told(z, "no slip twice in a week", z.lending(), 5);
        told(z, "h s", z.weekOf(0), 0);
        told(z, "i s", z.weekOf(1), -2);
        told(z, "i t", z.weekOf(2), 0);
        told(z, "h t", z.weekOf(3), -2);
        MistakesLent n = new MistakesLent();
        refused(n, "lending without a museum", n.lending(), 1);
        told(n, "lending without asks", Check.load(n, SMALL), 0);
        told(n, "lending without asks", n.lending(), 0);
        MistakesLent a = Check.loaded(start + "asks h s pays 3;asks i s pays 4;asks i t pays 2;asks h t pays 1");
        told(a, "lending", a.lending(), 5);
        told(a, "another museum", Check.load(a, start + "asks h s pays 2"), 2);
        told(a, "lending anew", a.lending(), 2);
        told(a, "weekOf anew", a.weekOf(0), 0);
        MistakesLent e = Check.loaded(LADDER + ";person k child p;person g child q;asks k tu pays 6;asks g tw pays 6");
        told(e, "as much harm as grown", e.worth(0), 6 + 3 * 4);
        told(e, "more harm than grown", e.worth(1), -2);
    }

    private static void p33to35() {
        MistakesLent x = Check.loaded(KITCHEN);
        told(x, "rests", x.rests(0, 1), 1);
        told(x, "rest", x.rest(0, 1), 33);
        told(x, "rest of unlike plans", x.rest(0, 2), 23);
        told(x, "the other way round", x.rest(2, 0), 32);
        int[][] wrong = {{0, 0}, {-1, 0}, {0, 3}, {3, 0}, {0, -2}};
        for (int[] pair : wrong) {
            refused(x, "rests of none", x.rests(pair[0], pair[1]), 1);
            refused(x, "rest of none", x.rest(pair[0], pair[1]), 1);
        }
        MistakesLent y = Check.loaded(SMALL + ";slip s early d often 1;slip t early d often 1;person h grown p;person i child p");
        told(y, "all alike", y.rests(0, 1), 9);
        told(y, "none ahead of all", y.rest(0, 1), 0);
        told(x, "decade(0, 0)", x.decade(0, 0), 0);
        told(x, "decade(0, 1)", x.decade(0, 1), 8);
        told(x, "decade(0, 2)", x.decade(0, 2), 28);
        told(x, "a seed that stays", x.decade(65536, 500), 2500);
        told(x, "clean much", x.clean(1));
        told(x, "a cleaned one does nothing", x.decade(65536, 500), 0);
        refused(x, "decade seed", x.decade(-1, 1), 2);
        refused(x, "decade seed too great", x.decade(65537, 1), 2);
        refused(x, "decade n", x.decade(0, -1), 2);
        refused(x, "decade n too great", x.decade(0, 501), 2);
        MistakesLent n = new MistakesLent();
        refused(n, "decade without a museum", n.decade(0, 1), 1);
        MistakesLent s = Check.loaded(SMALL + ";slip s left d often 1");
        refused(s, "decade without people", s.decade(-1, 1), 6);
        MistakesLent p = Check.loaded(SMALL + ";person h grown p");
        refused(p, "decade without slips", p.decade(0, 1), 6);
    }

    private static void p36to40() {
        MistakesLent x = Check.loaded(KITCHEN);
        told(x, "nobody has it", x.who(1), -2);
        refused(x, "a child may not", x.lend(2, 1), 5);
        told(x, "lend", x.lend(1, 0));
        told(x, "who", x.who(1), 0);
        refused(x, "it is out", x.lend(1, 2), 5);
        refused(x, "he has one", x.lend(0, 0), 5);
        refused(x, "clean one that is out", x.clean(1), 5);
        told(x, "a child may", x.lend(0, 1));
        refused(x, "lend no slip", x.lend(5, 2), 1);
        refused(x, "lend slip -2", x.lend(-2, 2), 1);
        refused(x, "lend to nobody", x.lend(2, 3), 1);
        refused(x, "lend to -1", x.lend(2, -1), 1);
        refused(x, "who of none", x.who(5), 1);
        refused(x, "who of -1", x.who(-1), 1);
        told(x, "overdue at once", x.overdue(), 0);
        told(x, "week", x.week(), 1);
        told(x, "lend later", x.lend(3, 2));
        told(x, "week", x.week(), 2);
        told(x, "not overdue yet", x.overdue(), 0);
        told(x, "week", x.week(), 3);
        told(x, "overdue", x.overdue(), 3);
        told(x, "week", x.week(), 4);
        told(x, "all overdue", x.overdue(), 11);
        told(x, "brought back, made", x.bring(1, true), 5);
        told(x, "nobody has it again", x.who(1), -2);
        due("harm done", x.size(12), 5);
        told(x, "not overdue when brought back", x.overdue(), 9);
        told(x, "brought back, not made", x.bring(3, false), 0);
        due("no more harm done", x.size(12), 5);
        refused(x, "bring what isn't out", x.bring(3, true), 5);
        refused(x, "bring none", x.bring(5, true), 1);
        refused(x, "bring -2", x.bring(-2, true), 1);
        told(x, "lend to the other plan", x.lend(1, 2));
        told(x, "its harm there", x.bring(1, true), 25);
        due("all harm done", x.size(12), 30);
        told(x, "clean", x.clean(1));
        refused(x, "clean again", x.clean(1), 5);
        refused(x, "lend a cleaned one", x.lend(1, 2), 5);
        refused(x, "clean none", x.clean(5), 1);
        refused(x, "clean -1", x.clean(-1), 1);
        told(x, "harm with a cleaned one", x.harm(0, 1, -2), 0);
        MistakesLent e = Check.loaded(LADDER + ";person k child p;person g child q");
        told(e, "a child may have as much as grown", e.lend(1, 0));
        refused(e, "and not more", e.lend(2, 1), 5);
        refused(e, "nor one that doesn't fit, if his plan alone does more", e.lend(4, 1), 5);
    }

    private static void p41to44() {
        MistakesLent x = Check.loaded(KITCHEN);
        for (int i = 1; i <= 13; i++) {
            told(x, "week " + i, x.week(), i);
            due("acts", x.size(13), Math.min(i, 12));
        }
        for (int i = 12; i >= 1; i--) {
            told(x, "undo", x.undo());
            due("week then", x.size(11), i);
            due("acts then", x.size(13), i - 1);
        }
        refused(x, "undo more than are kept", x.undo(), 6);
        due("week still", x.size(11), 1);
        told(x, "lend", x.lend(1, 0));
        told(x, "bring", x.bring(1, true), 5);
        told(x, "clean", x.clean(1));
        refused(x, "a refused act", x.clean(1), 5);
        told(x, "image", x.image(), 0);
        due("an image is no act", x.size(13), 3);
        told(x, "undo clean", x.undo());
        due("not cleaned", x.slip(1, 4), 0);
        told(x, "undo bring", x.undo());
        due("out again", x.who(1), 0);
        due("harm undone", x.size(12), 0);
        told(x, "image", x.image(), 1);
        told(x, "undo lend", x.undo());
        due("not lent", x.who(1), -2);
        told(x, "image", x.image(), 2);
        refused(x, "a fourth image", x.image(), 3);
        due("images", x.size(14), 3);
        told(x, "week", x.week(), 2);
        told(x, "back", x.back(0));
        due("cleaned by the image", x.slip(1, 4), 1);
        due("harm by the image", x.size(12), 5);
        due("week by the image", x.size(11), 1);
        due("nothing to undo", x.size(13), 0);
        refused(x, "undo", x.undo(), 6);
        due("all images stay", x.size(14), 3);
        told(x, "back", x.back(1));
        due("out by the image", x.who(1), 0);
        due("not cleaned by the image", x.slip(1, 4), 0);
        due("no harm by the image", x.size(12), 0);
        told(x, "bring", x.bring(1, false), 0);
        told(x, "back again", x.back(1));
        due("the image stayed as it was", x.who(1), 0);
        told(x, "back", x.back(2));
        due("not lent by the image", x.who(1), -2);
        refused(x, "back to none", x.back(3), 1);
        refused(x, "back to -1", x.back(-1), 1);
        MistakesLent o = Check.loaded(KITCHEN);
        told(o, "lend", o.lend(1, 0));
        told(o, "image", o.image(), 0);
        for (int i = 0; i < 3; i++) {
            o.week();
        }
        told(o, "overdue", o.overdue(), 2);
        told(o, "undo", o.undo());
        told(o, "not overdue", o.overdue(), 0);
        told(o, "bring", o.bring(1, false), 0);
        told(o, "lend later", o.lend(1, 0));
        told(o, "back to when it was lent first", o.back(0));
        for (int i = 0; i < 3; i++) {
            o.week();
        }
        told(o, "overdue by that week", o.overdue(), 2);
    }

    private static void p45to47() {
        MistakesLent x = Check.loaded(KITCHEN);
        due("led 0 of none", Check.led(x, 0), NONE);
        told(x, "lend", x.lend(3, 2));
        told(x, "lend", x.lend(0, 1));
        told(x, "lend", x.lend(1, 0));
        due("led 0", Check.led(x, 0), 0);
        due("led 1", Check.led(x, 1), 1);
        due("led 2", Check.led(x, 2), 3);
        due("led 3", Check.led(x, 3), NONE);
        due("led -1", Check.led(x, -1), NONE);
        told(x, "bring", x.bring(1, false), 0);
        due("led 1 then", Check.led(x, 1), 3);
        int[] sizes = {2, 9, 2, 10, 3, 3, 2, 5, 3, 4, 3, 0, 0, 4, 0, 20};
        x.feed(0, 0, 0, 0, 0);
        for (int what = 0; what < 16; what++) {
            due("size " + what, x.size(what), sizes[what]);
        }
        due("size -1", x.size(-1), NONE);
        due("size 16", x.size(16), NONE);
        int[] troubles = new int[7];
        x.slip(9, 9);
        troubles[1] = x.trouble();
        x.museum(-1);
        troubles[2] = x.trouble();
        for (int i = 0; i < 4; i++) {
            x.image();
        }
        troubles[3] = x.trouble();
        x.museum(1);
        troubles[4] = x.trouble();
        x.bring(2, true);
        troubles[5] = x.trouble();
        x.back(0);
        x.undo();
        troubles[6] = x.trouble();
        x.size(99);
        Check.led(x, 99);
        x.fault();
        x.where();
        due("trouble stays by calls that can't be refused", x.trouble(), 6);
        x.overdue();
        troubles[0] = x.trouble();
        for (int i = 0; i < 7; i++) {
            due("trouble " + i, troubles[i], i);
        }
        due("NONE", MistakesLent.NONE, -1);
    }
}
