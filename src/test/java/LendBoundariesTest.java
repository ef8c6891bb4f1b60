/** The boundary cases that the document names of lending, of games and of decades: Term III, promises 30 to 35. */
public final class LendBoundariesTest {
    /** Seven slips, four people; plan p does no harm with any of them. */
    private static final String REST = "thing th 0;deed d adds th 1;deed x adds th 2;plan p d;plan q x;slip a left d often 1;slip b left d often 1;slip c left d often 1;"
        + "slip e left d often 1;slip f left d often 1;slip g left d often 1;slip h left d often 1;person i grown p;person j grown p;person k grown p;person l grown p;";
    private static final String SMALL = "museum weeks 1 breaks 0 fine 0 grown 0;thing a 0;deed d adds a 1;plan p d";

    public static void main(String[] args) {
        lending();
        children();
        worth();
        best();
        lendingCalls();
        games();
        gameCalls();
        decades();
        decadeCall();
        Check.finish();
    }

    private static void sentence(String section, String words) {
        Check.sentence(section, words);
    }

    private static void told(MistakesLent x, String what, int got, int want) {
        Check.told(x, what, got, want);
    }

    private static String museum(int weeks, String lines) {
        return "museum weeks " + weeks + " breaks 0 fine 0 grown 0;" + REST + lines;
    }

    /** Asks, told by pairs of a person and a slip and what is paid, with the weeks that are due. */
    private static void lends(String what, int weeks, String asks, int all, int... due) {
        StringBuilder lines = new StringBuilder();
        for (String ask : asks.split(" ")) {
            lines.append("asks ").append(ask.charAt(0)).append(' ').append(ask.charAt(1)).append(" pays ").append(ask.substring(2)).append(';');
        }
        MistakesLent x = Check.loaded(museum(weeks, lines.substring(0, lines.length() - 1)));
        told(x, what + ": all worth", x.lending(), all);
        for (int i = 0; i < due.length; i++) {
            told(x, what + ": the week of " + i, x.weekOf(i), due[i]);
        }
    }

    private static void lending() {
        sentence("III", "LENDING: of those who ask each gets his SLIP in one of the weeks, or not at all, no SLIP nor person twice in a week");
        lends("one asks for one", 1, "ia5", 5, 0);
        lends("one asks for two, one week", 1, "ia5 ib6", 6, -2, 0);
        lends("one asks for two, two weeks", 2, "ia5 ib6", 11, 0, 1);
        lends("one asks for four, three weeks", 3, "ia5 ib6 ic4 ie7", 18, 0, 1, -2, 2);
        lends("one asks for all seven", 3, "ia1 ib2 ic3 ie4 if5 ig6 ih7", 18, -2, -2, -2, -2, 0, 1, 2);
        lends("two ask for one, one week", 1, "ia5 ja6", 6, -2, 0);
        lends("two ask for one, two weeks", 2, "ia5 ja6", 11, 0, 1);
        lends("four ask for one, three weeks", 3, "ia5 ja6 ka4 la7", 18, 0, 1, -2, 2);
        lends("four ask for four in one week", 1, "ia1 jb2 kc3 le4", 10, 0, 0, 0, 0);
        lends("each for his own and all for one", 1, "ia9 ja9 ka9 la9 jb1 kc2 le3", 15, 0, -2, -2, -2, 0, 0, 0);
        lends("two for two, one week", 1, "ia1 jb1 ib1 ja1", 2, 0, 0, -2, -2);
        lends("two for two, two weeks", 2, "ia1 jb1 ib1 ja1", 4, 0, 0, 1, 1);
    }

    private static MistakesLent child(int grown, int level) {
        return Check.loaded("museum weeks 1 breaks 0 fine 1 grown " + grown + ";thing a 0;deed d adds a 1;deed e adds a " + level + ";"
            + "harm a over 1 costs 5;harm a over 2 costs 1;harm a over 3 costs 93;plan p d;slip s for d e often 1;slip t left e often 1;"
            + "person h child p;person i grown p;person j donor p;asks h s pays 1;asks i s pays 1;asks j s pays 1");
    }

    private static void children() {
        sentence("III", "a child none that does HARM above grown on his PLAN, nobody one that is cleaned.");
        int[] harm = {0, 0, 5, 6, 99};
        for (int level = 1; level <= 4; level++) {
            for (int grown : new int[] {0, 4, 5, 6, 98, 99}) {
                MistakesLent x = child(grown, level);
                boolean may = harm[level] <= grown;
                String what = "harm " + harm[level] + ", grown " + grown;
                told(x, what, x.harm(0, 0, -2), harm[level]);
                told(x, what + ": the child", x.worth(0), may ? 1 + harm[level] : -2);
                told(x, what + ": the grown one", x.worth(1), 1 + harm[level]);
                told(x, what + ": the donor", x.worth(2), harm[level]);
                Check.due(what + ": lend", x.lend(0, 0), may);
                Check.due(what + ": lend, trouble", x.trouble(), may ? 0 : 5);
            }
        }
        MistakesLent c = child(99, 1);
        Check.told(c, "clean", c.clean(0));
        for (int ask = 0; ask < 3; ask++) {
            told(c, "nobody one that is cleaned", c.worth(ask), -2);
            told(c, "in no week", c.weekOf(ask), -2);
        }
        told(c, "no worth", c.lending(), 0);
        for (int p = 0; p < 3; p++) {
            Check.refused(c, "nor is it lent", c.lend(0, p), 5);
        }
        MistakesLent o = Check.loaded("museum weeks 1 breaks 0 fine 0 grown 4;thing a 0;deed d adds a 1;harm a over 0 costs 5;plan p d;slip s early d often 1;slip t left d often 1;"
            + "person h child p;asks h s pays 1;asks h t pays 1");
        told(o, "the harm is his plan's with it, whatever it does itself", o.worth(0), -2);
        told(o, "one that does good", o.worth(1), 1);
        told(o, "he gets the other one", o.lending(), 1);
        told(o, "in the only week", o.weekOf(1), 0);
    }

    private static void worth() {
        sentence("III", "WORTH: what he pays (donors nothing), and fine times the HARM of his PLAN with it.");
        String six = "";
        for (int i = 0; i < 6; i++) {
            six += ";harm a under 9 costs 99";
        }
        String lines = ";thing a 0;deed d adds a 1;deed e adds a 9 if a over 0;plan p d;slip s for d e often 1;slip t left d often 1;slip u for d x often 1;person g grown p;person c child p;person o donor p;";
        String asks = "asks g s pays 99;asks g t pays 0;asks o s pays 99;asks c t pays 1;asks o t pays 0;asks c s pays 0;asks g u pays 5";
        for (int fine = 0; fine <= 9; fine += 3) {
            MistakesLent x = Check.loaded("museum weeks 3 breaks 99 fine " + fine + " grown 99" + lines.replace("plan p d", "deed x adds a 9;plan p d") + asks + six);
            told(x, "pays 99, all harm", x.worth(0), 99 + fine * 693);
            told(x, "pays 0", x.worth(1), fine * 594);
            told(x, "a donor pays nothing", x.worth(2), fine * 693);
            told(x, "a child may not", x.worth(3), -2);
            told(x, "a donor who pays 0", x.worth(4), fine * 594);
            told(x, "no harm", x.worth(6), 5);
        }
        sentence("30", "WORTH of an ask; -2 he may not have it. NONE: 1.");
        MistakesLent y = Check.loaded("museum weeks 3 breaks 99 fine 9 grown 99" + lines.replace("plan p d", "deed x adds a 9;plan p d") + asks);
        told(y, "the first", y.worth(0), 99 + 9 * 99);
        told(y, "a child: as much as grown", y.worth(5), 9 * 99);
        Check.oneOf(y, "ask", 7, ask -> y.worth(ask));
        MistakesLent z = Check.loaded(SMALL);
        Check.oneOf(z, "no asks", 0, ask -> z.worth(ask));
        MistakesLent c = child(98, 4);
        told(c, "he may not", c.worth(0), -2);
    }

    private static void best() {
        sentence("III", "BEST: by which all WORTH is greatest; of like ones the first by asks: the least week, none behind all weeks.");
        lends("worth nothing is lent too", 1, "ia0", 0, 0);
        lends("all of no worth", 3, "ia0 ib0 ic0 ie0", 0, 0, 1, 2, -2);
        lends("all alike", 3, "ia1 ib1 ic1 ie1 if1 ig1 ih1", 3, 0, 1, 2, -2, -2, -2, -2);
        lends("all alike, one week", 1, "ia1 ib1 ic1 ie1 if1 ig1 ih1", 1, 0, -2, -2, -2, -2, -2, -2);
        lends("the least weeks", 2, "ia1 ja1 ib1 jb1", 4, 0, 1, 1, 0);
        lends("none in the first week for a greater one", 1, "ia4 ja3 ib3", 6, -2, 0, 0);
        lends("as much either way: the first gets it", 1, "ia6 ja3 ib3", 6, 0, -2, -2);
        lends("the last of no worth where there is room", 2, "ia5 ib5 ic0 jc0", 10, 0, 1, -2, 0);
        lends("a greater last one", 1, "ia1 ja2 ka3 la4", 4, -2, -2, -2, 0);
        lends("seven of four people", 3, "ia9 ja9 ka9 la9 ib9 jb9 kb9", 9 * 6, 0, 1, 2, -2, 1, 2, 0);
    }

    private static void lendingCalls() {
        sentence("31", "BEST: all WORTH. NONE: 1 (no MUSEUM).");
        MistakesLent n = new MistakesLent();
        Check.refused(n, "no museum", n.lending(), 1);
        Check.load(n, SMALL);
        told(n, "no asks", n.lending(), 0);
        Check.load(n, museum(1, "asks i a pays 99;asks j b pays 99;asks k c pays 99;asks l e pays 99;asks i f pays 99"));
        told(n, "as much as can be", n.lending(), 396);
        Check.told(n, "clean", n.clean(0));
        told(n, "another for it", n.lending(), 396);
        Check.told(n, "clean", n.clean(4));
        told(n, "none for it", n.lending(), 297);
        Check.told(n, "undo", n.undo());
        told(n, "again", n.lending(), 396);
        MistakesLent y = Check.loaded(museum(1, "asks i a pays 9;asks j a pays 9;asks k a pays 9;asks l a pays 9;asks i b pays 9;asks j b pays 9;asks k b pays 9"));
        told(y, "of seven asks", y.lending(), 18);
        told(y, "of two of another museum", Check.load(y, museum(1, "asks i a pays 5;asks i b pays 3")), 7);
        told(y, "of two of another museum", y.lending(), 5);
        told(y, "the one", y.weekOf(0), 0);
        told(y, "not the other", y.weekOf(1), -2);
        sentence("32", "The week of an ask by it; -2 none. NONE: 1.");
        told(n, "a cleaned one", n.weekOf(0), -2);
        told(n, "another for it", n.weekOf(4), 0);
        Check.told(n, "undo", n.undo());
        told(n, "the first again", n.weekOf(0), 0);
        told(n, "no other", n.weekOf(4), -2);
        MistakesLent x = Check.loaded(museum(3, "asks i a pays 1;asks i b pays 1;asks i c pays 1;asks i e pays 1;asks i f pays 1;asks i g pays 1;asks i h pays 1"));
        told(x, "the last week", x.weekOf(2), 2);
        Check.oneOf(x, "ask", 7, ask -> x.weekOf(ask));
        MistakesLent z = Check.loaded(SMALL);
        Check.oneOf(z, "no asks", 0, ask -> z.weekOf(ask));
    }

    // ---- games and decades

    private static void plays(String what, String museum, int rests, int rest, int other) {
        MistakesLent x = Check.loaded("museum weeks 1 breaks 0 fine 0 grown 0;thing a 5;" + museum);
        told(x, what + ": rests", x.rests(0, 1), rests);
        told(x, what + ": rests the other way", x.rests(1, 0), rests);
        told(x, what + ": rest", x.rest(0, 1), rest);
        told(x, what + ": rest the other way", x.rest(1, 0), other);
    }

    private static void games() {
        sentence("III", "A GAME of two people: each chooses a SLIP, or none, that the other one makes with his PLAN: "
            + "each wants the other one's HARM less his own to be as great as can be.");
        String two = "deed x adds a 1;deed y takes a 1;plan p x;plan q y;harm a over 6 costs 3;harm a under 4 costs 5;";
        plays("no slips: none for both", two + "person h grown p;person i grown q", 1, 0, 0);
        plays("each harms the other one's plan", two + "slip l left x often 1;slip w twice x often 1;slip v twice y often 1;person h grown p;person i grown q", 1, 32, 23);
        plays("the same plan", two + "slip l left x often 1;slip w twice x often 1;slip v twice y often 1;person h grown p;person i donor p", 1, 22, 22);
        plays("slips that do good are not chosen", two + "harm a over 5 costs 9;slip l left x often 1;slip t turned x often 1;person h grown p;person i child p", 1, 0, 0);
        plays("the last of seven", two + "slip sa left x often 1;slip sb left x often 1;slip sc left x often 1;slip sd left x often 1;slip se left x often 1;slip sf left x often 1;"
            + "slip sg twice x often 1;person h grown p;person i grown p", 1, 77, 77);
        sentence("III", "REST: a pair of choices by which neither could do better alone.");
        String seven = "slip sa left x often 1;slip sb left x often 1;slip sc left x often 1;slip sd left x often 1;slip se left x often 1;slip sf left x often 1;slip sg left x often 1";
        plays("all alike", two + seven + ";person h grown p;person i grown p", 64, 0, 0);
        plays("none fits the one's plan", two + "slip w twice x often 1;slip v twice x often 1;person h grown p;person i grown q", 2 * 3, 1, 10);
        plays("all but none", two.replace("a over 6", "a under 6") + seven + ";person h grown p;person i grown p", 49, 11, 11);
    }

    private static void gameCalls() {
        String text = "museum weeks 1 breaks 0 fine 0 grown 0;thing a 5;deed x adds a 1;plan p x;harm a over 6 costs 3;slip w twice x often 1;"
            + "person h grown p;person i grown p;person j child p;person k donor p";
        sentence("33", "How many RESTS a GAME of two people has. NONE: 1 (unlike).");
        MistakesLent x = Check.loaded(text);
        for (int p = 0; p < 4; p++) {
            for (int q = 0; q < 4; q++) {
                if (p == q) {
                    Check.refused(x, "with himself", x.rests(p, q), 1);
                } else {
                    told(x, "rests", x.rests(p, q), 1);
                }
            }
        }
        Check.oneOf(x, "the other", 3, q -> x.rests(3, q));
        Check.refused(x, "nobody with nobody", x.rests(-1, -2), 1);
        MistakesLent z = Check.loaded(text);
        Check.refused(z, "the one -1", z.rests(-1, 0), 1);
        Check.refused(z, "the one 4", z.rests(4, 0), 1);
        Check.refused(z, "the one -2", z.rests(-2, 0), 1);
        Check.refused(z, "the other 4", z.rests(0, 4), 1);
        Check.told(z, "clean", z.clean(0));
        told(z, "a cleaned one does nothing: all alike", z.rests(0, 1), 4);
        sentence("34", "The first, by the one's choice, then the other one's (none ahead of all): "
            + "10 times the one's SLIP and 1, and the other one's and 1 (0 is none); -2. NONE: 1 (unlike).");
        told(z, "none ahead of all", z.rest(0, 1), 0);
        Check.told(z, "undo", z.undo());
        told(z, "the slip", z.rest(0, 1), 11);
        MistakesLent y = Check.loaded(text);
        for (int p = 0; p < 4; p++) {
            Check.refused(y, "with himself", y.rest(p, p), 1);
            told(y, "with another", y.rest(p, 3 - p), 11);
        }
        Check.oneOf(y, "the other", 3, q -> y.rest(3, q));
        Check.refused(y, "the one -1", y.rest(-1, 0), 1);
        Check.refused(y, "the one 4", y.rest(4, 0), 1);
        Check.refused(y, "the one -2", y.rest(-2, 0), 1);
        Check.refused(y, "the other 4", y.rest(0, 4), 1);
        MistakesLent n = Check.loaded(text.substring(0, text.indexOf(";person i")));
        Check.refused(n, "one person alone", n.rest(0, 0), 1);
        Check.refused(n, "one person alone: rests", n.rests(0, 1), 1);
    }

    /** A museum with four people, whose plans do unlike harm with each of seven slips. */
    private static final String TOWN = "museum weeks 1 breaks 50 fine 0 grown 0;thing a 0;thing b 0;deed w adds a 1;deed x adds a 2;deed y adds a 4,adds b 1;deed z adds b 9 if a over 0;"
        + "harm a over 0 costs 1;harm a over 1 costs 2;harm a over 3 costs 4;harm b over 0 costs 8;harm b over 5 costs 16;harm a under 1 costs 32;plan p w;plan q x,z;plan r y,x;plan v z;"
        + "slip sa left w often 1;slip sb twice x often 1;slip sc turned y often 1;slip sd early z often 1;slip se for w y often 1;slip sf for z x often 1;slip sg left y often 1;"
        + "person h grown p;person i child q;person j donor r;person k grown v";

    private static void decades() {
        sentence("III", "DECADE: n weeks by a SEED: each week a DRAW mod people, a DRAW mod SLIPS (SEED becomes (75 times SEED and 74) mod 65,537): "
            + "he makes it with his PLAN: HARM, all together.");
        MistakesLent harms = Check.loaded(TOWN);
        int[][] harm = new int[4][7];
        for (int p = 0; p < 4; p++) {
            for (int k = 0; k < 7; k++) {
                harm[p][k] = harms.harm(p, k, -2);
            }
        }
        MistakesLent x = Check.loaded(TOWN);
        for (int seed : new int[] {0, 1, 2, 872, 873, 874, 32767, 32768, 32769, 43690, 65534, 65535, 65536}) {
            for (int n : new int[] {0, 1, 2, 3, 7, 499, 500}) {
                long draw = seed;
                int all = 0;
                for (int week = 0; week < n; week++) {
                    draw = (75 * draw + 74) % 65537;
                    int p = (int) (draw % 4);
                    draw = (75 * draw + 74) % 65537;
                    all += harm[p][(int) (draw % 7)];
                }
                told(x, "decade(" + seed + ", " + n + ")", x.decade(seed, n), all);
            }
        }
        MistakesLent y = Check.loaded(SMALL + ";harm a over 0 costs 1;slip s early d often 1;person h grown p");
        told(y, "one person, one slip that doesn't fit", y.decade(0, 500), 500);
        MistakesLent g = Check.loaded("museum weeks 1 breaks 99 fine 0 grown 0;thing a 0;deed d adds a 1 if a over 0;harm a under 1 costs 99;harm a under 2 costs 99;harm a under 3 costs 99;"
            + "harm a under 4 costs 99;harm a under 5 costs 99;harm a under 6 costs 99;plan p d;slip s twice d often 1;person h grown p");
        told(g, "as much as can be", g.decade(65536, 500), 500 * 693);
        told(g, "nothing is done by it", g.size(12), 0);
    }

    private static void decadeCall() {
        sentence("35", "DECADE. NONE: 1 (no MUSEUM); 6 (no people, no SLIPS); 2 (SEED 0 .. 65,536, n 0 .. 500).");
        int[][] wrong = {{-1, 0}, {65537, 0}, {Integer.MIN_VALUE, 0}, {Integer.MAX_VALUE, 0}, {-65537, 1}, {0, -1}, {0, 501}, {0, Integer.MIN_VALUE},
            {0, Integer.MAX_VALUE}, {-1, -1}, {65537, 501}, {65536, 501}, {65537, 500}};
        MistakesLent x = Check.loaded(TOWN);
        MistakesLent n = new MistakesLent();
        MistakesLent p = Check.loaded(SMALL + ";slip s left d often 1");
        MistakesLent s = Check.loaded(SMALL + ";person h grown p");
        MistakesLent b = Check.loaded(SMALL);
        for (int[] row : wrong) {
            Check.refused(x, "decade(" + row[0] + ", " + row[1] + ")", x.decade(row[0], row[1]), 2);
            Check.refused(n, "no museum", n.decade(row[0], row[1]), 1);
            Check.refused(p, "no people", p.decade(row[0], row[1]), 6);
            Check.refused(s, "no slips", s.decade(row[0], row[1]), 6);
            Check.refused(b, "neither", b.decade(row[0], row[1]), 6);
        }
        told(x, "the least", x.decade(0, 0), 0);
        told(x, "no weeks", x.decade(65536, 0), 0);
        Check.due("the most", x.decade(65536, 500) > 0 && x.trouble() == 0, true);
        Check.refused(n, "no museum", n.decade(0, 0), 1);
        Check.refused(p, "no people", p.decade(0, 0), 6);
        Check.refused(s, "no slips", s.decade(65536, 500), 6);
    }
}
