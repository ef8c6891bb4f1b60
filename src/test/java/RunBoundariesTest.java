/** The boundary cases that the document names of what is told and of runs: Term II, promises 6 to 19. */
public final class RunBoundariesTest {
    private static final String M = "museum weeks 1 breaks 0 fine 0 grown 0;";
    /** As much of each as there is room for; deeds 0 f .. 7 m, plans 0 n .. 3 r, slips 0 s .. 6 y. */
    static final String FULL = "museum weeks 3 breaks 99 fine 9 grown 99;thing a 0;thing b 9;thing c 5;thing d 1;thing e 8;"
        + "deed f adds a 1;deed g takes b 1;deed h adds c 9,takes d 9;deed i takes e 9 if e over 7;deed j adds a 9 if a under 9;deed k adds d 1;"
        + "deed l takes c 1;deed m adds b 1,adds e 1;harm a over 0 costs 99;harm b under 9 costs 99;harm c over 8 costs 99;harm d under 2 costs 99;"
        + "harm e under 1 costs 99;harm a over 8 costs 99;plan n f,g,h,i,j,i;plan o m;plan q l,l,l,l,l,m;plan r j,i;"
        + "slip s left f often 9;slip t twice i often 1;slip u turned m often 5;slip v early i often 2;slip w for j f often 3;slip x left l often 4;"
        + "slip y for m g often 9;person z grown n;person za child o;person zb donor q;person zc child r;"
        + "asks z s pays 99;asks za u pays 0;asks zb x pays 9;asks zc w pays 1;asks z t pays 2;asks zb y pays 3;asks zc v pays 4;ends r 9,9,5,1,0";

    public static void main(String[] args) {
        asTold();
        needs();
        effects();
        harms();
        fitting();
        mistakes();
        twoSlips();
        goodAndCancel();
        endAndLevel();
        breaksAndHarm();
        bits();
        extremes();
        cancelling();
        worst();
        Check.finish();
    }

    private static void sentence(String section, String words) {
        Check.sentence(section, words);
    }

    private static void told(MistakesLent x, String what, int got, int want) {
        Check.told(x, what, got, want);
    }

    private static MistakesLent loaded(String text) {
        return Check.loaded(text);
    }

    // ---- promises 6 to 8

    private static void asTold() {
        sentence("6", "Of a SLIP 0 its MISTAKE (0 left, 1 twice, 2 turned, 3 early, 4 for), 1 its DEED, 2 the second (-2), 3 how often, "
            + "4 1 if it is cleaned. NONE: 1.");
        int[][] slips = {{0, 0, -2, 9, 0}, {1, 3, -2, 1, 0}, {2, 7, -2, 5, 0}, {3, 3, -2, 2, 0}, {4, 4, 0, 3, 0}, {0, 6, -2, 4, 0}, {4, 7, 1, 9, 0}};
        MistakesLent x = loaded(FULL);
        for (int k = 0; k < 7; k++) {
            for (int what = 0; what < 5; what++) {
                told(x, "slip " + k + " " + what, x.slip(k, what), slips[k][what]);
            }
            Check.told(x, "clean", x.clean(k));
            told(x, "it is cleaned", x.slip(k, 4), 1);
            told(x, "a cleaned one's deed", x.slip(k, 1), slips[k][1]);
            if (k < 6) {
                told(x, "the next isn't", x.slip(k + 1, 4), 0);
            }
        }
        MistakesLent y = loaded(FULL);
        Check.oneOf(y, "slip", 7, k -> y.slip(k, 0));
        Check.oneOf(y, "slip what", 5, what -> y.slip(6, what));
        Check.refused(y, "neither", y.slip(7, 5), 1);
        sentence("7", "The i-th DEED of a PLAN. NONE: 1.");
        int[][] plans = {{0, 1, 2, 3, 4, 3}, {7}, {6, 6, 6, 6, 6, 7}, {4, 3}};
        MistakesLent z = loaded(FULL);
        for (int plan = 0; plan < 4; plan++) {
            for (int i = 0; i < plans[plan].length; i++) {
                told(z, "step", z.step(plan, i), plans[plan][i]);
            }
            int at = plan;
            Check.oneOf(z, "step of plan " + plan, plans[plan].length, i -> z.step(at, i));
        }
        Check.oneOf(z, "plan", 4, plan -> z.step(plan, 0));
        sentence("8", "Of a person 0 KIND (0 grown, 1 child, 2 donor), 1 the PLAN. NONE: 1.");
        int[][] people = {{0, 0}, {1, 1}, {2, 2}, {1, 3}};
        MistakesLent p = loaded(FULL);
        for (int i = 0; i < 4; i++) {
            told(p, "kind", p.person(i, 0), people[i][0]);
            told(p, "plan", p.person(i, 1), people[i][1]);
        }
        Check.oneOf(p, "person", 4, i -> p.person(i, 1));
        Check.oneOf(p, "person what", 2, what -> p.person(3, what));
    }

    // ---- runs

    private static void needs() {
        sentence("II", "A RUN of a PLAN: from all levels at first, its DEEDS in order.");
        MistakesLent x = loaded(M + "thing a 9;deed up adds a 1;deed dn takes a 2;plan p up,dn;plan q dn,up;plan r dn,dn,dn,dn,dn,up");
        for (int i = 0; i < 3; i++) {
            told(x, "up, down", x.end(0, -2, -2, 0), 7);
            told(x, "down, up", x.end(1, -2, -2, 0), 8);
            told(x, "six steps", x.end(2, -2, -2, 0), 1);
        }
        sentence("II", "A DEED that needs what is not so (over: a level above it; under: below it) can't be: the RUN BREAKS there, and is over.");
        for (int level = 0; level <= 9; level++) {
            for (int bound = 0; bound <= 9; bound++) {
                MistakesLent y = loaded(M + "thing a " + level + ";thing b 0;deed o adds b 1 if a over " + bound + ";deed u adds b 1 if a under " + bound
                    + ";deed e adds b 5;plan p o,e;plan q u,e;plan r e,o,e,u");
                String what = level + " and " + bound;
                told(y, "over: " + what, y.breaks(0, -2, -2), level > bound ? -2 : 0);
                told(y, "under: " + what, y.breaks(1, -2, -2), level < bound ? -2 : 0);
                told(y, "over, then over: " + what, y.end(0, -2, -2, 1), level > bound ? 6 : 0);
                told(y, "under, then over: " + what, y.end(1, -2, -2, 1), level < bound ? 6 : 0);
                told(y, "where it breaks: " + what, y.breaks(2, -2, -2), level > bound ? 3 : 1);
            }
        }
    }

    private static void effects() {
        sentence("II", "Else its EFFECTS come, the levels staying within 0 .. 9. END: the levels then.");
        for (int level = 0; level <= 9; level++) {
            for (int many = 1; many <= 9; many++) {
                MistakesLent x = loaded(M + "thing a " + level + ";thing b " + level + ";deed up adds a " + many + ";deed dn takes a " + many
                    + ";deed both takes b " + many + ",adds a " + many + ";plan p up;plan q dn;plan r both;plan s up,dn");
                int above = Math.min(9, level + many);
                int below = Math.max(0, level - many);
                told(x, level + " adds " + many, x.end(0, -2, -2, 0), above);
                told(x, level + " takes " + many, x.end(1, -2, -2, 0), below);
                told(x, "both: the one", x.end(2, -2, -2, 0), above);
                told(x, "both: the other", x.end(2, -2, -2, 1), below);
                told(x, "within behind each step", x.end(3, -2, -2, 0), above - many);
                told(x, "the other stays", x.end(3, -2, -2, 1), level);
            }
        }
        MistakesLent n = loaded(M + "thing a 5;deed d adds a 1 if a over 4;deed e takes a 3 if a under 7;plan p d,d,e;plan q e,d");
        told(n, "a need is of the levels then", n.breaks(0, -2, -2), 2);
        told(n, "END if it broke", n.end(0, -2, -2, 0), 7);
        told(n, "a need that is so no more", n.breaks(1, -2, -2), 1);
        told(n, "END then", n.end(1, -2, -2, 0), 2);
    }

    private static void harms() {
        sentence("II", "HARM: costs of each harm that is so at the END, and breaks if it BROKE, together.");
        for (int level = 0; level <= 9; level++) {
            for (int bound = 0; bound <= 9; bound++) {
                MistakesLent x = loaded(M + "thing a 5;deed dn takes a 9;deed up adds a 9;thing b " + level + ";harm b over " + bound + " costs 1;harm b under "
                    + bound + " costs 99;plan p up");
                told(x, level + " beside " + bound, x.harm(0, -2, -2), level > bound ? 1 : level < bound ? 99 : 0);
            }
        }
        String six = "thing a 9;deed d takes a 1 if a under 9;deed e takes a 1 if a over 8;plan p d;plan q e;";
        for (int i = 1; i <= 6; i++) {
            six += "harm a over 7 costs 99;";
            MistakesLent x = loaded("museum weeks 1 breaks 99 fine 0 grown 0;" + six.substring(0, six.length() - 1));
            told(x, "so many, and broke", x.harm(0, -2, -2), 99 * i + 99);
            told(x, "so many", x.harm(1, -2, -2), 99 * i);
            MistakesLent y = loaded(M + six.substring(0, six.length() - 1));
            told(y, "broke, which costs nothing", y.harm(0, -2, -2), 99 * i);
        }
        MistakesLent z = loaded(M + "thing a 0;deed up adds a 9;deed dn takes a 9;harm a over 0 costs 9;plan p up,dn;plan q up,dn,up");
        told(z, "so only ahead of the END", z.harm(0, -2, -2), 0);
        told(z, "so at the END", z.harm(1, -2, -2), 9);
        MistakesLent n = loaded(M + "thing a 0;deed up adds a 9;plan p up");
        told(n, "no harm is told", n.harm(0, -2, -2), 0);
    }

    private static void fitting() {
        sentence("II", "A SLIP FITS a PLAN if its (first told) DEED is one of it");
        String things = "thing a 5;deed x adds a 1;deed y takes a 1;deed z takes a 2;";
        String plans = "plan p x;plan q y,y,y,y,y,x;plan r x,z,z;plan s y;";
        MistakesLent x = loaded(M + things + plans + "slip l left x often 1;slip w twice x often 1;slip t turned x often 1;slip f for x y often 1;"
            + "slip g for y x often 1;slip h for z x often 1");
        int[] bits = {7, 7, 7, 7, 10, 4};
        for (int k = 0; k < 6; k++) {
            told(x, "fits " + k, x.fits(k), bits[k]);
        }
        sentence("II", "early: if that isn't the first step.");
        MistakesLent e = loaded(M + things + "plan p x;plan q y,x;plan r x,y;plan s x,x;slip e early x often 1;slip f early y often 1;slip g early z often 1");
        told(e, "early x", e.fits(0), 2 + 8);
        told(e, "early y", e.fits(1), 4);
        told(e, "early z", e.fits(2), 0);
        MistakesLent l = loaded(M + things + "plan p y,y,y,y,y,x;plan q x,y,y,y,y,x;slip e early x often 1");
        told(l, "the last step", l.fits(0), 3);
    }

    private static void mistakes() {
        String start = M + "thing a 0;thing b 0;deed x adds a 1;deed y adds b 2,adds a 1;deed n adds b 1 if a over 0;";
        sentence("II", "It is made at the first step with that DEED: left: the step is left out");
        MistakesLent l = loaded(start + "plan p x;plan q x,n,x;plan r n;slip s left x often 1;slip t left n often 1");
        told(l, "the only step", l.end(0, 0, -2, 0), 0);
        told(l, "no step breaks", l.breaks(0, 0, -2), -2);
        told(l, "the first of two", l.breaks(1, 0, -2), 0);
        told(l, "no step: no break", l.breaks(2, 1, -2), -2);
        told(l, "with it: a break", l.breaks(2, -2, -2), 0);
        sentence("II", "twice: it is done once more behind it");
        MistakesLent w = loaded(start + "plan p x;plan q x,x,x,x,x,x;plan r x,x,x,x,x,y;plan v y,n,x;slip s twice x often 1;slip t twice y often 1;slip u twice n often 1");
        told(w, "one step", w.end(0, 0, -2, 0), 2);
        told(w, "six steps are seven", w.end(1, 0, -2, 0), 7);
        told(w, "six steps are eight", w.end(1, 0, 0, 0), 8);
        told(w, "the last of six", w.end(2, 1, -2, 1), 4);
        told(w, "the last of six, both", w.end(2, 1, 1, 1), 6);
        told(w, "behind it, not behind all", w.level(3, 2, 3, 0), 1);
        told(w, "behind it, level", w.level(3, 2, 3, 1), 4);
        MistakesLent b = loaded(M + "thing a 4;deed x takes a 1 if a over 2;plan p x;plan q x,x,x,x,x,x;slip s twice x often 1");
        told(b, "as often as it can", b.breaks(0, 0, -2), -2);
        told(b, "once more breaks", b.breaks(0, 0, 0), 2);
        told(b, "it breaks at the same step", b.breaks(1, 0, 0), 2);
        sentence("II", "turned: its EFFECTS are turned (what it adds it takes, what it takes it adds)");
        MistakesLent t = loaded(M + "thing a 2;thing b 7;deed x takes a 1,adds b 2;deed y adds a 9,takes b 9;deed z adds a 1 if a over 2;plan p x,x;plan q y;plan r z;"
            + "slip s turned x often 1;slip t turned y often 1;slip u turned z often 1");
        told(t, "the first of two", t.end(0, 0, -2, 0), 2);
        told(t, "the first of two: b", t.end(0, 0, -2, 1), 7);
        told(t, "not below 0", t.end(1, 1, -2, 0), 0);
        told(t, "not above 9", t.end(1, 1, -2, 1), 9);
        told(t, "what it needs isn't turned", t.breaks(2, 2, -2), 0);
        sentence("II", "early: it changes places with the step ahead of it (early: at the first such step that isn't the first one)");
        MistakesLent e = loaded(start + "plan p n,x;plan q x,n,x;plan r x,x;plan v n,n,n,n,n,x;slip s early x often 1");
        told(e, "the second step", e.breaks(0, 0, -2), -2);
        told(e, "not the first one", e.level(1, 0, 2, 0), 2);
        told(e, "of like ones nothing is seen", e.end(2, 0, -2, 0), 2);
        told(e, "only with the step ahead", e.breaks(3, 0, -2), 0);
        sentence("II", "for: the second DEED stands there instead, not turned.");
        MistakesLent f = loaded(start + "plan p x;plan q x,x;plan r y,y,y,y,y,x;slip s for x y often 1;slip t turned x often 1;slip u turned y often 1;slip v for y n often 1");
        told(f, "instead", f.end(0, 0, -2, 1), 2);
        told(f, "the first alone", f.end(1, 0, -2, 1), 2);
        told(f, "of six the last", f.end(2, 0, -2, 1), 9);
        told(f, "turned, then another", f.end(0, 1, 0, 1), 2);
        told(f, "another, then turned", f.end(0, 0, 2, 1), 0);
        told(f, "its own need counts", f.breaks(2, 3, -2), 0);
        sentence("II", "One that doesn't FIT changes nothing.");
        MistakesLent d = loaded(start + "plan p x,y;slip s left n often 1;slip t twice n often 1;slip u turned n often 1;slip v early x often 1;slip w for n x often 1");
        for (int k = 0; k < 5; k++) {
            told(d, "END", d.end(0, k, -2, 0), 2);
            told(d, "END: b", d.end(0, -2, k, 1), 2);
            for (int steps = 0; steps <= 2; steps++) {
                told(d, "level", d.level(0, k, steps, 0), steps);
            }
            told(d, "both", d.end(0, k, k, 1), 2);
        }
    }

    private static void twoSlips() {
        sentence("II", "TWO SLIPS: the first is made, then the second on what the PLAN is then (a step turned stays turned).");
        MistakesLent x = loaded(M + "thing a 4;deed x adds a 1;deed y takes a 3;plan p x;plan q x,y;plan r y,x;"
            + "slip l left x often 1;slip w twice x often 1;slip t turned x often 1;slip e early x often 1;slip f for x y often 1;slip g for y x often 1");
        told(x, "left, left: none is left", x.end(0, 0, 0, 0), 4);
        told(x, "twice, left", x.end(0, 1, 0, 0), 5);
        told(x, "left, twice: it doesn't fit then", x.end(0, 0, 1, 0), 4);
        told(x, "twice, twice", x.end(0, 1, 1, 0), 7);
        told(x, "turned, turned", x.end(0, 2, 2, 0), 5);
        told(x, "turned, twice: both turned", x.end(0, 2, 1, 0), 2);
        told(x, "twice, turned: one turned", x.end(0, 1, 2, 0), 4);
        told(x, "turned, early doesn't fit", x.end(0, 2, 3, 0), 3);
        told(x, "early fits by twice", x.end(0, 1, 3, 0), 6);
        told(x, "for, for: back", x.end(0, 4, 5, 0), 5);
        told(x, "for, twice doesn't fit", x.end(0, 4, 1, 0), 1);
        told(x, "for: not turned any more", x.end(0, 2, 4, 0), 1);
        told(x, "turned: another is put for the other", x.end(1, 2, 5, 0), 4);
        told(x, "the other alone", x.end(0, -2, 2, 0), 3);
        told(x, "the one alone", x.end(0, 2, -2, 0), 3);
        told(x, "none", x.end(0, -2, -2, 0), 5);
        told(x, "early, then turned", x.end(2, 3, 2, 0), 0);
        told(x, "turned, then early: turned still", x.end(2, 2, 3, 0), 0);
        told(x, "early, then early: it is first now", x.breaks(2, 3, 3), -2);
        MistakesLent o = loaded(M + "thing a 2;deed x adds a 1;deed y takes a 9;plan p y,x;slip t turned x often 1;slip e early x often 1;slip u turned y often 1;slip l left y often 1");
        told(o, "the turned one goes ahead", o.end(0, 0, 1, 0), 0);
        told(o, "the other turned, it stays so behind", o.end(0, 2, 1, 0), 9);
        told(o, "the other turned, and left out", o.end(0, 2, 3, 0), 3);
        told(o, "the one turned, the other left out", o.end(0, 0, 3, 0), 1);
        told(o, "early twice: nothing more", o.end(0, 1, 1, 0), 0);
        MistakesLent r = loaded(M + "thing a 5;thing b 5;deed x adds a 1;deed y adds b 1;deed z adds b 2;plan p x,y,z;slip t turned y often 1;slip w twice x often 1;slip l left x often 1;slip u turned z often 1");
        told(r, "turned, another done twice ahead of it", r.end(0, 0, 1, 1), 6);
        told(r, "the last turned, another done twice ahead of it", r.end(0, 3, 1, 1), 4);
        told(r, "turned, another left out ahead of it", r.end(0, 0, 2, 1), 6);
        told(r, "the last turned, another left out ahead of it", r.end(0, 3, 2, 1), 4);
        told(r, "both turned", r.end(0, 0, 3, 1), 2);
    }

    private static void goodAndCancel() {
        sentence("II", "GOOD: a SLIP that FITS with less HARM than without; HARMLESS: with no more.");
        MistakesLent g = loaded(M + "thing a 5;thing b 0;deed x adds a 1;deed y adds b 1;harm a over 5 costs 10;harm a over 6 costs 1;harm b under 9 costs 1;plan p x;"
            + "slip l left x often 1;slip w twice x often 1;slip f for x y often 1;slip n left y often 1;slip e early x often 1");
        told(g, "without", g.harm(0, -2, -2), 11);
        told(g, "less", g.harm(0, 0, -2), 1);
        told(g, "more by one", g.harm(0, 1, -2), 12);
        told(g, "good", g.good(0), 1 + 4);
        told(g, "harmless", g.harmless(0), 1 + 4);
        MistakesLent h = loaded(M + "thing a 5;deed x adds a 1;deed y adds a 1;harm a over 5 costs 10;plan p x;slip w twice x often 1;slip f for x y often 1;slip l left x often 1;slip n left y often 1");
        told(h, "as much is harmless", h.harmless(0), 7);
        told(h, "and not good", h.good(0), 4);
        sentence("II", "CANCEL: two (of lesser and greater number, made in that order) that FIT, each alone having another END than without, "
            + "both together the same (broken or not aside).");
        MistakesLent c = loaded(M + "thing a 5;deed x adds a 1;deed y takes a 1;plan p x;slip f for x y often 1;slip g for y x often 1;slip t turned x often 1;slip u turned y often 1");
        told(c, "the second alone doesn't fit", c.end(0, 0, 1, 0), c.end(0, -2, -2, 0));
        told(c, "both must fit", c.cancels(0), 0);
        MistakesLent o = loaded(M + "thing a 5;deed x adds a 1;deed y takes a 1;plan p x,y;slip w twice x often 1;slip t turned x often 1;slip v twice y often 1");
        told(o, "twice, turned", o.end(0, 0, 1, 0), 4);
        told(o, "turned, twice", o.end(0, 1, 0, 0), 2);
        told(o, "twice x and twice y", o.end(0, 0, 2, 0), 5);
        told(o, "those that cancel", o.cancels(0), 1);
        told(o, "by numbers", o.cancel(0, 0), 2);
        String broke = "thing a 5;thing b 0;deed x adds a 1;deed y takes a 1 if b over 0;deed z adds a 2;deed v takes a 9;plan p x,y;";
        MistakesLent b = loaded(M + broke + "slip l left x often 1;slip f for y x often 1");
        told(b, "it broke", b.breaks(0, -2, -2), 1);
        told(b, "with both it doesn't", b.breaks(0, 0, 1), -2);
        told(b, "END is the same", b.end(0, 0, 1, 0), b.end(0, -2, -2, 0));
        told(b, "broken or not aside", b.cancels(0), 1);
        MistakesLent s = loaded(M + broke + "slip l left y often 1;slip e twice y often 1;slip w turned y often 1");
        told(s, "the same END alone: nothing to cancel", s.cancels(0), 0);
        MistakesLent r = loaded(M + "thing a 5;deed x adds a 1;plan p x;slip t turned x often 1;slip u turned x often 1;slip v turned x often 1");
        told(r, "each two", r.cancels(0), 3);
        told(r, "not one with itself", r.end(0, 0, 0, 0), 6);
        told(r, "the last", r.cancel(0, 2), 12);
        MistakesLent d = loaded(M + "thing a 5;deed x adds a 1;deed y takes a 1;plan p x;slip l left x often 1;slip w twice x often 1");
        told(d, "the greater first would", d.end(0, 1, 0, 0), d.end(0, -2, -2, 0));
        told(d, "in that order", d.cancels(0), 0);
        MistakesLent e = loaded(M + "thing a 5;deed x adds a 1;deed y takes a 1;plan p x;slip w twice x often 1;slip l left x often 1");
        told(e, "the lesser first does", e.cancels(0), 1);
    }

    // ---- promises 9 to 19

    private static void endAndLevel() {
        sentence("9", "The level of a THING at the END of a PLAN with two SLIPS (-2: none). NONE: 1.");
        int[][] ends = {{9, 8, 9, 0, 0}, {0, 9, 5, 1, 9}, {0, 9, 0, 1, 9}, {9, 9, 5, 1, 0}};
        MistakesLent x = loaded(FULL);
        for (int plan = 0; plan < 4; plan++) {
            for (int thing = 0; thing < 5; thing++) {
                told(x, "end " + plan + " of " + thing, x.end(plan, -2, -2, thing), ends[plan][thing]);
            }
        }
        Check.oneOf(x, "plan", 4, plan -> x.end(plan, -2, -2, 0));
        Check.oneOf(x, "thing", 5, thing -> x.end(3, 6, 6, thing));
        Check.oneOrNone(x, "slip", 7, k -> x.end(0, k, -2, 0));
        Check.oneOrNone(x, "other", 7, k -> x.end(0, -2, k, 0));
        Check.oneOrNone(x, "other, with a slip", 7, k -> x.end(0, 6, k, 0));
        sentence("10", "The level behind so many steps (0 up to as many as the PLAN has as told) with a SLIP; as for LOOK. NONE: 1; 2 (steps).");
        MistakesLent y = loaded(FULL);
        int[] counts = {6, 1, 6, 2};
        for (int plan = 0; plan < 4; plan++) {
            told(y, "behind none", y.level(plan, -2, 0, 4), 8);
            told(y, "behind all", y.level(plan, -2, counts[plan], 4), ends[plan][4]);
            Check.refused(y, "behind more", y.level(plan, -2, counts[plan] + 1, 4), 2);
            for (int steps : Check.NEVER) {
                Check.refused(y, "behind " + steps, y.level(plan, -2, steps, 4), 2);
            }
            Check.refused(y, "behind -2", y.level(plan, -2, -2, 4), 2);
        }
        MistakesLent z = loaded(FULL);
        Check.oneOf(z, "plan", 4, plan -> z.level(plan, -2, 0, 0));
        Check.oneOf(z, "thing", 5, thing -> z.level(0, -2, 6, thing));
        Check.oneOrNone(z, "slip", 7, k -> z.level(0, k, 6, 0));
        Check.refused(z, "no plan, wrong steps", z.level(4, -2, 7, 0), 1);
        Check.refused(z, "no slip, wrong steps", z.level(0, 7, 7, 0), 1);
        Check.refused(z, "no thing, wrong steps", z.level(0, 6, -1, 5), 1);
        MistakesLent w = loaded(M + "thing a 0;thing b 0;deed x adds a 1;deed n adds b 1 if a over 1;plan p x,x,x,n;plan q x;plan r n,x,x;"
            + "slip w twice x often 1;slip l left x often 1;slip m left n often 1");
        told(w, "twice: as many as told", w.level(0, 0, 4, 0), 4);
        told(w, "twice: the last isn't behind them", w.level(0, 0, 4, 1), 0);
        told(w, "though it is at the END", w.end(0, 0, -2, 1), 1);
        Check.refused(w, "twice: not one more", w.level(0, 0, 5, 1), 2);
        told(w, "twice of one step", w.level(1, 0, 1, 0), 1);
        Check.refused(w, "twice of one step: not two", w.level(1, 0, 2, 0), 2);
        told(w, "left: shorter stays as it was", w.level(0, 1, 4, 1), 1);
        told(w, "left of one step", w.level(1, 1, 1, 0), 0);
        told(w, "broke: stays as it was", w.level(2, -2, 3, 0), 0);
        told(w, "left, so not broken", w.level(2, 2, 3, 0), 2);
        told(w, "ahead of where it breaks", w.level(2, -2, 0, 0), 0);
    }

    private static void breaksAndHarm() {
        sentence("11", "At which step (of those of the PLAN as it is with the SLIPS) it BREAKS; -2. NONE: 1.");
        MistakesLent x = loaded(FULL);
        told(x, "at the last of six", x.breaks(0, -2, -2), 5);
        told(x, "as slips make it, sooner", x.breaks(0, 0, -2), 4);
        told(x, "once more", x.breaks(0, 1, -2), 4);
        told(x, "it doesn't", x.breaks(1, -2, -2), -2);
        told(x, "of two", x.breaks(3, -2, -2), -2);
        told(x, "of two, twice", x.breaks(3, 1, -2), 2);
        told(x, "of two, thrice: the same", x.breaks(3, 1, 1), 2);
        MistakesLent y = loaded(M + "thing a 0;thing b 0;deed x adds a 1;deed n adds b 1 if a over 8;deed z adds b 1;plan p x,x,x,x,x,n;plan q n;"
            + "slip w twice x often 1;slip v twice n often 1;slip l left x often 1;slip m left n often 1");
        told(y, "the seventh step", y.breaks(0, 0, -2), 6);
        told(y, "the eighth step", y.breaks(0, 0, 0), 7);
        told(y, "the fourth step", y.breaks(0, 2, 2), 3);
        told(y, "no step", y.breaks(1, 3, -2), -2);
        told(y, "the first step", y.breaks(1, 1, 1), 0);
        MistakesLent z = loaded(FULL);
        Check.oneOf(z, "plan", 4, plan -> z.breaks(plan, -2, -2));
        Check.oneOrNone(z, "slip", 7, k -> z.breaks(0, k, -2));
        Check.oneOrNone(z, "other", 7, k -> z.breaks(0, -2, k));
        sentence("12", "HARM. NONE: 1.");
        MistakesLent h = loaded(FULL);
        told(h, "all six, and a break", h.harm(0, -2, -2), 7 * 99);
        told(h, "as few as can be", h.harm(1, -2, -2), 99);
        told(h, "none is so but one", h.harm(2, -2, -2), 99);
        Check.oneOf(h, "plan", 4, plan -> h.harm(plan, -2, -2));
        Check.oneOrNone(h, "slip", 7, k -> h.harm(0, k, -2));
        Check.oneOrNone(h, "other", 7, k -> h.harm(0, -2, k));
    }

    private static void bits() {
        sentence("13", "PLANS that a SLIP FITS, as bits. NONE: 1.");
        int[] fits = {1, 9, 6, 9, 9, 4, 6};
        MistakesLent x = loaded(FULL);
        for (int k = 0; k < 7; k++) {
            told(x, "fits " + k, x.fits(k), fits[k]);
        }
        Check.oneOf(x, "slip", 7, k -> x.fits(k));
        MistakesLent y = loaded(M + "thing a 0;deed x adds a 1;deed y adds a 1;plan p x;plan q x;plan r x;plan s x;slip l left x often 1;slip m left y often 1");
        told(y, "all four", y.fits(0), 15);
        told(y, "none", y.fits(1), 0);
        Check.told(y, "clean", y.clean(0));
        told(y, "a cleaned one", y.fits(0), 0);
        sentence("14", "HARMLESS ones that FIT a PLAN, as bits. NONE: 1.");
        String slips = "slip a left x often 1;slip b left x often 1;slip c left x often 1;slip d left x often 1;slip e left x often 1;slip f left x often 1;slip g left x often 1";
        MistakesLent z = loaded(M + "thing th 0;deed x adds th 1;deed y adds th 2;harm th over 0 costs 1;plan p x;plan q y;plan r x,x;" + slips);
        told(z, "all seven", z.harmless(0), 127);
        told(z, "none fits", z.harmless(1), 0);
        told(z, "as much", z.harmless(2), 127);
        Check.oneOf(z, "plan", 3, plan -> z.harmless(plan));
        sentence("15", "GOOD ones, as bits. NONE: 1.");
        MistakesLent g = loaded(M + "thing th 0;deed x adds th 1;deed y adds th 2;harm th over 0 costs 1;plan p x;plan q y;plan r x,x;" + slips);
        told(g, "all seven", g.good(0), 127);
        told(g, "none fits", g.good(1), 0);
        told(g, "as much isn't good", g.good(2), 0);
        Check.told(g, "clean", g.clean(6));
        told(g, "a cleaned one isn't", g.good(0), 63);
        Check.oneOf(g, "plan", 3, plan -> g.good(plan));
    }

    private static void extremes() {
        sentence("16", "The SLIP that FITS with least HARM (or, worst, with most), the first such; -2 none FITS. NONE: 1.");
        MistakesLent x = loaded(M + "thing a 0;deed x adds a 1;deed y adds a 2;deed z adds a 3;harm a over 0 costs 5;harm a over 1 costs 5;harm a under 1 costs 5;"
            + "plan p x;plan q z;plan r x,x;slip l left z often 1;slip w twice x often 1;slip f for x y often 1;slip t turned x often 1;slip e left x often 1");
        told(x, "without", x.harm(0, -2, -2), 5);
        told(x, "least: the first of those with 5", x.extreme(0, false), 3);
        told(x, "most: the first of those with 10", x.extreme(0, true), 1);
        told(x, "only one fits: least", x.extreme(1, false), 0);
        told(x, "only one fits: most", x.extreme(1, true), 0);
        Check.told(x, "clean", x.clean(0));
        told(x, "none fits: least", x.extreme(1, false), -2);
        told(x, "none fits: most", x.extreme(1, true), -2);
        Check.told(x, "clean", x.clean(1));
        told(x, "most, the first cleaned", x.extreme(0, true), 2);
        Check.oneOf(x, "plan, least", 3, plan -> x.extreme(plan, false));
        Check.oneOf(x, "plan, most", 3, plan -> x.extreme(plan, true));
        MistakesLent n = loaded(M + "thing a 0;deed x adds a 1;plan p x");
        told(n, "no slips", n.extreme(0, true), -2);
        MistakesLent a = loaded(M + "thing a 0;deed x adds a 1;plan p x;slip l left x often 1;slip m twice x often 9");
        told(a, "all without harm: least", a.extreme(0, false), 0);
        told(a, "all without harm: most", a.extreme(0, true), 0);
    }

    private static void cancelling() {
        String turned = M + "thing th 5;deed x adds th 1;plan p x;plan q x,x;slip a turned x often 1;slip b turned x often 1;slip c turned x often 1;"
            + "slip d turned x often 1;slip e turned x often 1;slip f turned x often 1;slip g turned x often 1";
        sentence("17", "How many CANCEL on a PLAN. NONE: 1.");
        MistakesLent x = loaded(turned);
        told(x, "each two of seven", x.cancels(0), 21);
        for (int k = 6; k >= 0; k--) {
            Check.told(x, "clean", x.clean(k));
            told(x, "each two of fewer", x.cancels(1), k * (k - 1) / 2);
        }
        MistakesLent y = loaded(turned);
        Check.oneOf(y, "plan", 2, plan -> y.cancels(plan));
        sentence("18", "The i-th two, by numbers: 10 times the lesser and the greater. NONE: 1.");
        MistakesLent z = loaded(turned);
        int i = 0;
        for (int lesser = 0; lesser < 7; lesser++) {
            for (int greater = lesser + 1; greater < 7; greater++) {
                told(z, "cancel " + i, z.cancel(0, i), 10 * lesser + greater);
                i++;
            }
        }
        Check.oneOf(z, "two", 21, k -> z.cancel(1, k));
        Check.oneOf(z, "plan", 2, plan -> z.cancel(plan, 20));
        MistakesLent n = loaded(M + "thing a 0;deed x adds a 1;plan p x;slip l left x often 1");
        Check.refused(n, "none cancel", n.cancel(0, 0), 1);
    }

    private static void worst() {
        sentence("19", "The most HARM of two SLIPS that FIT, both orders, one of them twice, too; of none if none FITS. NONE: 1.");
        String start = M + "thing a 4;deed x adds a 1;deed y adds a 1;plan p x;plan q y;";
        MistakesLent t = loaded(start + "harm a over 6 costs 8;slip w twice x often 1");
        told(t, "one of them twice", t.worstTwo(0), 8);
        told(t, "none fits: of none", t.worstTwo(1), 0);
        MistakesLent n = loaded(start + "harm a over 4 costs 7");
        told(n, "no slips: of none", n.worstTwo(0), 7);
        MistakesLent f = loaded(start + "harm a over 4 costs 7;slip l left x often 1");
        told(f, "of those that fit, not of none", f.worstTwo(0), 0);
        told(f, "where none fits", f.worstTwo(1), 7);
        Check.told(f, "clean", f.clean(0));
        told(f, "a cleaned one doesn't fit", f.worstTwo(0), 7);
        for (String slips : new String[] {"slip w twice x often 1;slip t turned x often 1", "slip t turned x often 1;slip w twice x often 1"}) {
            MistakesLent o = loaded(start + "harm a under 3 costs 9;" + slips);
            told(o, "turned, then twice, whichever is told first", o.worstTwo(0), 9);
        }
        MistakesLent b = loaded(start + "harm a over 5 costs 3;slip f for x y often 1;slip w twice y often 1");
        told(b, "both must fit the plan as told", b.worstTwo(0), 0);
        Check.oneOf(b, "plan", 2, plan -> b.worstTwo(plan));
        MistakesLent p = loaded(start + "harm a under 6 costs 9;slip w twice x often 1");
        told(p, "of slips that are told alone", p.worstTwo(0), 0);
    }
}
