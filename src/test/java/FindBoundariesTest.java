/** The boundary cases that the document names of which it was, of plans that bear and of what is told apart: Term III, promises 20 to 29. */
public final class FindBoundariesTest {
    private static final String M = "museum weeks 1 breaks 0 fine 0 grown 0;";
    private static final String SMALL = "museum weeks 1 breaks 0 fine 0 grown 0;thing a 0;deed d adds a 1;plan p d";

    public static void main(String[] args) {
        which();
        whichCalls();
        likeliest();
        look();
        lookCalls();
        bears();
        made();
        madeByTwo();
        madeCalls();
        apart();
        copies();
        Check.finish();
    }

    private static void sentence(String section, String words) {
        Check.sentence(section, words);
    }

    private static void told(MistakesLent x, String what, int got, int want) {
        Check.told(x, what, got, want);
    }

    private static MistakesLent loaded(String text) {
        return Check.loaded(text);
    }

    // ---- which it was

    private static void which() {
        sentence("III", "WHICH: by an END told of a PLAN: none, or SLIPS that FIT it, by which its RUN has that END.");
        String start = M + "thing a 0;thing b 9;deed x adds a 1,takes b 1;deed y adds a 1;deed n adds a 9 if b under 9;plan p x;plan q y;plan r n;"
            + "slip lx left x often 1;slip ly left y often 1;slip fx for x y often 1;slip wx twice x often 1;slip tx turned x often 1;"
            + "slip ln left n often 1;slip ex early x often 1";
        String[] ends = {"p 1,8", "p 0,9", "p 9,0", "p 1,9", "p 2,7", "q 1,9", "q 0,9", "r 0,9", "p 8,1", "p 0,8"};
        int[] slips = {0, 1 + 16, 0, 4, 8, 0, 2, 32, 0, 0};
        int[] none = {1, 0, 0, 0, 0, 1, 0, 1, 0, 0};
        for (int i = 0; i < ends.length; i++) {
            MistakesLent x = loaded(start + ";ends " + ends[i]);
            told(x, "which, ends " + ends[i], x.which(), slips[i]);
            told(x, "whichNone, ends " + ends[i], x.whichNone(), none[i]);
        }
        for (int thing = 0; thing < 5; thing++) {
            String levels = "1,0,0,0,0";
            char[] other = levels.toCharArray();
            other[2 * thing]++;
            String five = M + "thing a 0;thing b 0;thing c 0;thing d 0;thing e 0;deed x adds a 1;plan p x;slip w twice x often 1;";
            MistakesLent x = loaded(five + "ends p " + new String(other));
            told(x, "one level of five is another: none", x.whichNone(), 0);
            told(x, "one level of five is another: which", x.which(), thing == 0 ? 1 : 0);
            MistakesLent y = loaded(five + "ends p " + levels);
            told(y, "all five", y.whichNone(), 1);
        }
    }

    private static void whichCalls() {
        String all = "thing th 5;deed d adds th 1;plan p d;slip a left d often 1;slip b left d often 1;slip c left d often 1;slip e left d often 1;"
            + "slip f left d often 1;slip g left d often 1;slip h left d often 1;";
        sentence("20", "WHICH by what ends tells: SLIPS as bits. NONE: 1 (no MUSEUM); 6 (no ends).");
        MistakesLent x = loaded(M + all + "ends p 5");
        told(x, "all seven", x.which(), 127);
        Check.told(x, "clean", x.clean(0));
        Check.told(x, "clean", x.clean(6));
        told(x, "cleaned ones fit no more", x.which(), 62);
        MistakesLent y = loaded(M + all + "ends p 6");
        told(y, "no slip", y.which(), 0);
        MistakesLent n = new MistakesLent();
        Check.refused(n, "no museum", n.which(), 1);
        Check.load(n, SMALL);
        Check.refused(n, "no ends", n.which(), 6);
        Check.load(n, SMALL + ";ends p 1");
        told(n, "no slips", n.which(), 0);
        Check.load(n, SMALL);
        Check.refused(n, "no ends any more", n.which(), 6);
        sentence("21", "Whether it was none: 1, 0. NONE: likewise.");
        told(x, "not none", x.whichNone(), 0);
        told(y, "none", y.whichNone(), 1);
        MistakesLent z = new MistakesLent();
        Check.refused(z, "no museum", z.whichNone(), 1);
        Check.load(z, SMALL);
        Check.refused(z, "no ends", z.whichNone(), 6);
    }

    private static void likeliest() {
        sentence("III", "LIKELIEST: the one that comes most often (none: 5), of like ones the first, none ahead of all.");
        for (int often = 1; often <= 9; often++) {
            MistakesLent x = loaded(M + "thing a 9;deed d adds a 1;deed e takes a 1;plan p d;slip s left d often " + often + ";ends p 9");
            told(x, "none, or often " + often, x.likeliest(), often > 5 ? 0 : -2);
            MistakesLent y = loaded(M + "thing a 5;deed d adds a 1;plan p d;slip s left d often " + often + ";ends p 5");
            told(y, "one alone", y.likeliest(), 0);
            for (int other = 1; other <= 9; other++) {
                MistakesLent z = loaded(M + "thing a 5;deed d adds a 1;plan p d;slip w twice d often 9;slip s left d often " + often + ";slip t left d often " + other + ";ends p 5");
                told(z, often + " beside " + other, z.likeliest(), other > often ? 2 : 1);
            }
        }
        sentence("22", "LIKELIEST; -2 none; -3 nothing can be. NONE: likewise.");
        MistakesLent n = new MistakesLent();
        Check.refused(n, "no museum", n.likeliest(), 1);
        Check.load(n, SMALL);
        Check.refused(n, "no ends", n.likeliest(), 6);
        Check.load(n, SMALL + ";ends p 1");
        told(n, "none", n.likeliest(), -2);
        Check.load(n, SMALL + ";slip s left d often 9;ends p 9");
        told(n, "nothing can be", n.likeliest(), -3);
        Check.load(n, SMALL + ";slip s left d often 9;ends p 0");
        told(n, "the slip", n.likeliest(), 0);
        Check.told(n, "clean", n.clean(0));
        told(n, "nothing can be if it is cleaned", n.likeliest(), -3);
    }

    private static void seen(String what, String museum, int plan, int look, int most) {
        MistakesLent x = loaded(M + museum);
        told(x, what + ": look", x.look(plan), look);
        told(x, what + ": lookMost", x.lookMost(plan), most);
    }

    private static void look() {
        sentence("III", "LOOK at a PLAN: of all steps (behind so many of the PLAN's steps as it is told, with whatever slip; "
            + "a RUN that is shorter, or broke, stays as it was)");
        String start = "thing a 0;deed x adds a 1;deed y adds a 2;deed z takes a 1;deed n adds a 3 if a over 1;plan p x;plan q x,x;plan r y,x,n;plan v x,n,y;";
        seen("twice the last step isn't seen", start + "slip w twice x often 1", 0, 0, 2);
        seen("twice a step, seen as the next is late", start + "slip w twice x often 1", 3, 20, 1);
        seen("left, the run is shorter", start + "slip l left x often 1", 1, 20, 1);
        seen("left the only step", start + "slip l left x often 1", 0, 10, 1);
        seen("the run breaks and stays", start + "slip f for y z often 1", 2, 10, 1);
        seen("without, it broke", start + "slip f for n y often 1", 3, 20, 1);
        seen("broke, seen behind later steps", start + "slip l left n often 1", 3, 20, 1);
        seen("behind all six", "thing a 0;thing b 0;deed x adds a 1;deed y adds b 1;plan p x,x,x,x,x,y;slip l left y often 1", 0, 61, 1);
        sentence("III", "THINGS the one by whose level, known, at most the fewest of none and SLIPS that FIT are left; the fewest steps, the first THING.");
        seen("no slip fits", start + "slip l left z often 1", 0, 0, 1);
        seen("no slips", "thing a 0;deed x adds a 1;plan p x", 0, 0, 1);
        seen("a slip that changes nothing", start + "slip e early x often 1", 1, 0, 2);
        seen("none counts too", start + "slip l left x often 1;slip t turned x often 1", 0, 10, 2);
        seen("those that don't fit don't count", start + "slip l left x often 1;slip t left z often 1", 0, 10, 1);
        String two = "thing a 5;thing b 5;deed x adds a 1,adds b 1;deed y adds a 1;deed z adds b 1;plan p x,x;plan q y,z;plan r z,y;";
        seen("the first thing", two + "slip l for x y often 1;slip m for x z often 1", 0, 10, 2);
        seen("the first thing alone", two + "slip l left x often 1", 0, 20, 1);
        seen("the second thing", two + "slip w for x y often 1", 0, 11, 1);
        seen("the fewest steps, not the first thing", two + "slip l left z often 1;slip t turned z often 1", 2, 11, 1);
        seen("fewer left, though later", two + "slip l left x often 1;slip t turned x often 1", 0, 20, 1);
        seen("at most, not of how many kinds", "thing a 5;thing b 5;deed x adds a 1,adds b 1;deed u adds a 1,adds b 2;deed v adds a 2,adds b 1;deed w adds a 2,adds b 3;plan p x;"
            + "slip fu for x u often 1;slip fv for x v often 1;slip fw for x w often 1", 0, 10, 2);
        seen("fewer left by the second", "thing a 5;thing b 5;deed x adds a 1,adds b 1;deed u adds a 1,adds b 2;deed v adds a 1,adds b 1;deed w adds a 2,adds b 3;plan p x;"
            + "slip fu for x u often 1;slip fv for x v often 1;slip fw for x w often 1", 0, 11, 2);
        seen("levels of 9 count", "thing a 9;thing b 9;deed x adds a 1;deed y adds b 1;plan p x,y;slip l left x often 1;slip m left y often 1", 0, 0, 3);
        String five = "thing a 1;thing b 3;thing c 5;thing d 7;thing e 9;deed x adds a 1,adds e 1;deed y takes e 3,adds d 1;deed z takes e 1,adds b 2;";
        seen("the fifth thing of five", five + "plan p x;slip f for x y often 1;slip g for x z often 1", 0, 14, 1);
        seen("the second thing, as the fifth stays at 9", five.replace("takes e 3", "adds e 3").replace("takes e 1", "adds e 1") + "plan p x;slip g for x z often 1", 0, 10, 1);
        seen("the fourth thing", five.replace("adds a 1,", "").replace("takes e 3", "adds e 3") + "plan p x;slip f for x y often 1", 0, 13, 1);
        String seven = "";
        for (int i = 1; i <= 7; i++) {
            seven += "deed d" + (char) ('a' + i) + " adds a " + i + ";";
        }
        seen("all told apart by one level", "thing a 0;deed x adds a 9;" + seven + "plan p x;slip sb for x db often 1;slip sc for x dc often 1;slip sd for x dd often 1;"
            + "slip se for x de often 1;slip sf for x df often 1;slip sg for x dg often 1;slip sh for x dh often 1", 0, 10, 1);
        seen("none told apart", "thing a 0;deed x takes a 9;deed y takes a 1;plan p x;slip sa left x often 1;slip sb twice x often 1;slip sc for x y often 1;"
            + "slip sd left x often 1;slip se left x often 1;slip sf left x often 1;slip sg left x often 1", 0, 0, 8);
    }

    private static void lookCalls() {
        sentence("23", "LOOK: 10 times the steps and the THING. NONE: 1.");
        String text = M + "thing a 0;thing b 0;thing c 0;thing d 0;thing e 0;deed x adds a 1;deed y adds e 1;plan p x,x,x,x,x,y;plan q y;plan r x;slip l left y often 1";
        MistakesLent x = loaded(text);
        told(x, "the sixth step, the fifth thing", x.look(0), 64);
        told(x, "the first step, the fifth thing", x.look(1), 14);
        told(x, "nothing to see", x.look(2), 0);
        Check.oneOf(x, "plan", 3, plan -> x.look(plan));
        Check.told(x, "clean", x.clean(0));
        told(x, "a cleaned one doesn't fit", x.look(0), 0);
        sentence("24", "How many are left at most behind it. NONE: 1.");
        MistakesLent y = loaded(text);
        told(y, "one", y.lookMost(0), 1);
        told(y, "none alone", y.lookMost(2), 1);
        Check.oneOf(y, "plan", 3, plan -> y.lookMost(plan));
    }

    // ---- plans that bear

    private static void bears() {
        sentence("III", "BEARS: a PLAN's HARM is no more by any SLIP that FITS than without.");
        String start = M + "thing a 5;deed x adds a 1;deed y takes a 1;harm a over 5 costs 9;harm a over 6 costs 1;plan p x;plan q y;plan r x,x;";
        int[][] rows = {{0, 1, 1}, {1, 1, 1}, {1, 0, 1}};
        String[] slips = {"slip w twice x often 1", "slip l left x often 1", "slip t turned y often 1"};
        for (int i = 0; i < 3; i++) {
            MistakesLent x = loaded(start + slips[i]);
            for (int plan = 0; plan < 3; plan++) {
                told(x, slips[i] + " on " + plan, x.bears(plan), rows[i][plan]);
            }
        }
        MistakesLent a = loaded(start + "slip l left x often 1;slip m left x often 1;slip n left x often 1;slip o left x often 1;slip u left x often 1;slip v left x often 1;slip w twice x often 1");
        told(a, "not the last of seven", a.bears(0), 0);
        Check.told(a, "clean", a.clean(6));
        told(a, "it is cleaned", a.bears(0), 1);
        sentence("25", "BEARS: 1, 0. NONE: 1.");
        MistakesLent y = loaded(start + "slip t turned y often 1");
        told(y, "it does", y.bears(0), 1);
        told(y, "it doesn't", y.bears(1), 0);
        Check.oneOf(y, "plan", 3, plan -> y.bears(plan));
        told(loaded(SMALL), "no slips", loaded(SMALL).bears(0), 1);
    }

    private static void makes(String what, String museum, int... want) {
        MistakesLent x = loaded(museum);
        boolean can = want.length == 0 || want[0] != -2;
        int number = can ? want.length : -2;
        told(x, what + ": made", x.made(0), number);
        for (int i = 0; i < number; i++) {
            told(x, what + ": madeAt " + i, x.madeAt(0, i), want[i]);
        }
        Check.refused(x, what + ": madeAt behind", x.madeAt(0, Math.max(0, number)), 1);
    }

    private static void made() {
        sentence("III", "MADE: the fewest DEEDS (0 .. 2) put in anywhere so that it BEARS all SLIPS (those that FIT it then)");
        makes("it bears", SMALL + ";slip s left d often 1;harm a over 0 costs 1");
        makes("no slips", SMALL + ";harm a over 0 costs 1");
        String twice = M + "thing a 0;deed up adds a 1;deed dn takes a 1;harm a over 1 costs 3;plan p up;slip s twice up often 1";
        makes("one, behind it", twice, 11);
        makes("it would bear all that fit as told, but not one that fits then", twice + ";deed jump adds a 9;slip t for dn jump often 1", -2);
        makes("another that doesn't fit then is no matter", twice + ";slip t early dn often 1;deed e takes a 1", 11);
        makes("another deed, as a slip fits the one", twice + ";deed jump adds a 9;deed e takes a 1;slip t for dn jump often 1", 13);
        String end = "museum weeks 1 breaks 9 fine 0 grown 0;thing a 0;deed up adds a 1;deed dn takes a 2 if a over 5;harm a over 6 costs 3;"
            + "plan p up,up,up,up,up,up;slip s twice up often 1";
        makes("behind all six", end, 61);
        String ahead = "museum weeks 1 breaks 9 fine 0 grown 0;thing a 0;thing b 3;deed up adds a 1;deed gate takes b 1 if b over 2;harm a under 2 costs 3;"
            + "plan p up,up;slip s left up often 1";
        makes("ahead of all", ahead, 0);
        sentence("III", "its HARM without being no more than it was");
        String boom = M + "thing a 0;deed up adds a 1;deed boom adds a 9;deed dn takes a 9;harm a over 1 costs 3;plan p up;slip s twice up often 1";
        makes("not by more harm without", boom, 12);
        makes("not by more harm, so not at all", boom.replace("dn takes a 9", "dn adds a 8"), -2);
        String like = M + "thing a 5;thing b 0;deed up adds a 1;deed x adds b 1;harm a under 6 costs 3;harm a over 6 costs 3;harm a over 5 costs 3;harm b over 0 costs 3;plan p up;"
            + "slip s twice up often 1";
        makes("no better, no worse", like, -2);
        makes("as much as it was", M + "thing a 5;thing b 9;deed up adds a 1;deed dn takes a 1;harm b over 8 costs 3;harm a over 6 costs 3;plan p up;slip s twice up often 1", 1);
        sentence("III", "of like ones the first by steps (0 ahead of all others), DEEDS");
        String many = M + "thing a 5;thing b 0;deed up adds a 1;deed x adds b 1;deed y adds b 1;deed dn takes a 1;deed em takes a 1;harm a over 7 costs 3;plan p up,up;slip s twice up often 1";
        makes("step 0, the first deed that does", many, 3);
        makes("the first deed, told in another order", many.replace("deed dn takes a 1;deed em takes a 1;", "").replace("deed up adds a 1;", "deed up adds a 1;deed em takes a 1;deed dn takes a 1;"), 1);
        String late = M + "thing a 0;deed up adds a 1;deed dn takes a 1;deed em takes a 1;harm a over 2 costs 3;plan p up,up;slip s twice up often 1";
        makes("step 1, as step 0 takes nothing", late, 11);
        makes("a later deed at an earlier step goes ahead", late.replace("em takes a 1", "em adds a 9") + ";deed f takes a 1", 11);
        makes("steps ahead of deeds", M + "thing a 0;thing b 0;deed up adds a 1 if b under 1;deed dn takes a 1;deed x adds b 1;harm a over 2 costs 3;plan p up,up;slip s twice up often 1", 2);
    }

    private static void madeByTwo() {
        sentence("III", "first by the first put in (its step in the PLAN as told), then by the second (its step with the first in).");
        String jumps = M + "thing a 0;deed up adds a 1;deed dn takes a 1;deed jump adds a 3;harm a over 1 costs 3;plan p up;slip s for up jump often 1";
        makes("two behind it", jumps, 11, 11);
        makes("the one first that is of the lesser step", M + "thing a 0;thing b 0;deed x adds b 1;deed up adds a 1 if b under 2;harm a over 1 costs 3;plan p up;slip s twice up often 1", 0, 0);
        makes("the first at step 0, the second behind all", "museum weeks 1 breaks 5 fine 0 grown 0;thing a 0;thing b 0;deed up adds a 1;deed jump adds a 3;deed x adds b 1;"
            + "deed y takes a 9 if b over 0;harm a over 1 costs 3;plan p up;slip s for up jump often 1", 2, 23);
        String last = "museum weeks 1 breaks 9 fine 0 grown 0;thing a 0;thing b 0;deed up adds a 1;deed big adds a 9;deed x adds b 1 if a over 5;deed y takes a 9 if b over 0;"
            + "harm a over 6 costs 3;plan p up,up,up,up,up,up;slip s for up big often 1";
        makes("both behind all six", last, 62, 73);
        makes("the second may be ahead of the first", M.replace("breaks 0", "breaks 9") + "thing a 0;thing b 0;thing c 0;deed up adds a 1;deed jump adds a 3;deed y takes a 9 if b over 0;deed x adds b 1;"
            + "harm a over 1 costs 3;plan p up;slip s for up jump often 1", 3, 22);
        makes("two aren't enough", jumps.replace("jump adds a 3", "jump adds a 4"), -2);
        String eight = jumps.replace("jump adds a 3", "jump adds a 9") + ";deed e adds a 1;deed f adds a 1;deed g adds a 1;deed h adds a 1;deed i takes a 4";
        makes("the last of eight deeds, twice", eight, 17, 17);
    }

    private static void madeCalls() {
        String text = M + "thing a 0;deed up adds a 1;deed dn takes a 1;deed jump adds a 3;harm a over 1 costs 3;plan p up;plan q dn;plan r up,dn,dn;plan v jump;slip s for up jump often 1;slip t twice jump often 1";
        sentence("26", "MADE: how many; -2 two aren't enough. NONE: 1.");
        MistakesLent x = loaded(text);
        told(x, "two", x.made(0), 2);
        told(x, "none", x.made(1), 0);
        told(x, "none", x.made(2), 0);
        told(x, "none, harm as great", x.made(3), 0);
        Check.oneOf(x, "plan", 4, plan -> x.made(plan));
        MistakesLent n = loaded(text.replace("jump adds a 3", "jump adds a 9"));
        told(n, "not enough", n.made(0), -2);
        Check.told(n, "clean", n.clean(0));
        told(n, "nothing to bear", n.made(0), 0);
        Check.told(n, "undo", n.undo());
        told(n, "again not enough", n.made(0), -2);
        sentence("27", "Its i-th: 10 times the step and the DEED. NONE: 1.");
        MistakesLent y = loaded(text);
        Check.oneOf(y, "of two", 2, i -> y.madeAt(0, i));
        Check.oneOf(y, "of none", 0, i -> y.madeAt(1, i));
        Check.oneOf(y, "plan", 1, plan -> y.madeAt(plan, 0));
        MistakesLent z = loaded(text.replace("jump adds a 3", "jump adds a 9"));
        Check.oneOf(z, "of not enough", 0, i -> z.madeAt(0, i));
        Check.refused(z, "of no plan", z.madeAt(4, 0), 1);
    }

    // ---- told apart

    private static void apart() {
        sentence("III", "APART: the fewest PLANS so that any two of none and all SLIPS that have unlike ENDS on some PLAN have so on one of these, of like ones the least bits.");
        String start = M + "thing a 0;deed w adds a 1;deed x adds a 2;deed y adds a 3;deed z adds a 4;";
        String one = "slip lw left w often 1";
        String all = one + ";slip lx left x often 1;slip ly left y often 1;slip lz left z often 1";
        String[][] rows = {
            {"plan p w", one, "1"}, {"plan p x;plan q w", one, "2"}, {"plan p x;plan q x;plan r x;plan v w", one, "8"},
            {"plan p w;plan q w;plan r w;plan v w", one, "1"}, {"plan p w;plan q x;plan r y;plan v z", all, "15"},
            {"plan p w;plan q x", one + ";slip lx left x often 1", "3"}, {"plan p w;plan q x;plan r w,x", one + ";slip lx left x often 1", "4"},
            {"plan p w,x;plan q w,x", one + ";slip lx left x often 1", "1"}, {"plan p w;plan q x;plan r x", one + ";slip lx left x often 1", "3"},
            {"plan p y;plan q w;plan r x;plan v x", one + ";slip lx left x often 1", "6"}, {"plan p w", "slip ew early w often 1", "0"},
            {"plan p w;plan q x", one + ";slip mw left w often 1", "1"}, {"plan p w,w,w,x;plan q x", one + ";slip mw left x often 1", "1"},
            {"plan p w,y;plan q x,y,z", all, "3"}, {"plan p w,x,y;plan q z,w;plan r y,z;plan v w,z,x", all, "3"}};
        for (String[] row : rows) {
            MistakesLent x = loaded(start + row[0] + ";" + row[1]);
            told(x, row[0] + " " + row[1], x.apart(), Integer.parseInt(row[2]));
        }
        sentence("28", "APART, as bits. NONE: 1 (no MUSEUM).");
        MistakesLent n = new MistakesLent();
        Check.refused(n, "no museum", n.apart(), 1);
        Check.load(n, SMALL);
        told(n, "no slips", n.apart(), 0);
        Check.load(n, start + "plan p w;plan q x;plan r y;plan v z;" + all);
        told(n, "all four plans", n.apart(), 15);
        Check.told(n, "clean", n.clean(1));
        told(n, "without a cleaned one", n.apart(), 13);
    }

    private static void copies() {
        sentence("III", "COPIES: a SLIP that has the same END as one told ahead on all PLANS.");
        String start = M + "thing a 0;thing b 5;deed w adds a 1;deed x adds a 2;deed n adds a 1 if b over 5;deed m adds b 1;";
        String[][] rows = {
            {"plan p w", "slip s left w often 1", "0"}, {"plan p w", "slip s left w often 1;slip t left w often 9", "2"},
            {"plan p w", "slip s left w often 1;slip t twice w often 1;slip u left w often 1", "4"},
            {"plan p w", "slip s left w often 1;slip t left w often 1;slip u left w often 1", "6"},
            {"plan p w", "slip s left x often 1", "0"}, {"plan p w", "slip s left x often 1;slip t early w often 1", "2"},
            {"plan p w", "slip s left w often 1;slip t turned w often 1", "2"}, {"plan p x,w", "slip s left w often 1;slip t turned w often 1", "0"},
            {"plan p w;plan q w;plan r w;plan v x,w", "slip s left w often 1;slip t turned w often 1", "0"},
            {"plan p n", "slip s left n often 1;slip t twice n often 1", "2"}, {"plan p w;plan q n,m", "slip s left n often 1;slip t for n m often 1", "0"},
            {"plan p w", "slip s left w often 1;slip t left w often 1;slip u left w often 1;slip v left w often 1;slip y left w often 1;slip z left w often 1;slip zz left w often 1", "126"},
            {"plan p w", "slip s for w n often 1;slip t left w often 1;slip u for w x often 1;slip v twice w often 1", "10"}};
        for (String[] row : rows) {
            MistakesLent x = loaded(start + row[0] + ";" + row[1]);
            told(x, row[0] + " " + row[1], x.copies(), Integer.parseInt(row[2]));
        }
        sentence("29", "COPIES, as bits. NONE: 1 (no MUSEUM).");
        MistakesLent n = new MistakesLent();
        Check.refused(n, "no museum", n.copies(), 1);
        Check.load(n, SMALL);
        told(n, "no slips", n.copies(), 0);
        Check.load(n, SMALL + ";slip s left d often 1;slip t left d often 1;slip u early d often 1");
        told(n, "the second is one", n.copies(), 2);
        Check.told(n, "clean", n.clean(0));
        told(n, "the first cleaned is like the third, which never fits", n.copies(), 4);
    }
}
