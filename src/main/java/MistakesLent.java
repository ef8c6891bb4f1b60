import java.util.NoSuchElementException;

/** A museum of mistakes that lends them out; ../shared/DOC.md says what each call answers. */
public final class MistakesLent {
    public static final int NONE = -1;

    /** No slip, nobody, nowhere: what the document writes as -2. */
    private static final int NO = -2;
    private static final int NOTHING_CAN_BE = -3;

    private static final int NO_SUCH = 1;
    private static final int A_NUMBER = 2;
    private static final int NO_ROOM = 3;
    private static final int A_FAULT = 4;
    private static final int NOT_SO = 5;
    private static final int THERE_IS_NONE = 6;

    private static final int FORM = 1;
    private static final int NOT_TOLD = 2;
    private static final int AGAIN = 3;
    private static final int BOUNDS = 4;
    private static final int MANY = 5;
    private static final int LACKS = 6;

    /** The sorts of lines; those that tell a name are the sorts of names too. */
    private static final int MUSEUM = 0;
    private static final int THING = 1;
    private static final int HARM = 2;
    private static final int DEED = 3;
    private static final int PLAN = 4;
    private static final int SLIP = 5;
    private static final int PERSON = 6;
    private static final int ASKS = 7;
    private static final int ENDS = 8;
    /** How many lines of each sort there is room for. */
    private static final int[] ROOM = {1, 5, 6, 8, 4, 7, 4, 7, 1};
    /** A word that is no name either; the names told stand behind it. */
    private static final int IF = 9;
    private static final int FIRST_NAME = 10;
    private static final int NAMES = FIRST_NAME + 28;

    private static final int LEFT = 0;
    private static final int TWICE = 1;
    private static final int TURNED = 2;
    private static final int EARLY = 3;
    private static final int INSTEAD = 4;

    private static final int GROWN = 0;
    private static final int CHILD = 1;
    private static final int DONOR = 2;

    private static final int TAPE_BYTES = 1000;
    private static final int FED_BYTES = 20;
    private static final int TOP_LEVEL = 9;
    private static final int PLAN_STEPS = 6;
    /** Six told, two put in, two done twice, and some to spare. */
    private static final int STEPS_ROOM = 12;
    private static final int EFFECTS = 2;
    private static final int ACTS_KEPT = 12;
    private static final int IMAGES_KEPT = 3;
    private static final int MOST_WEEKS = 3;
    private static final int NONE_OFTEN = 5;
    private static final int SEEDS = 65537;
    private static final int DECADE_WEEKS = 500;
    /** Far above what all harms together cost. */
    private static final int ANY_HARM = 1000000;

    private final byte[] tape = new byte[TAPE_BYTES];
    private int fed;
    private final Runner runner = new Runner();
    private final Desk desk = runner.desk;
    private Museum museum = runner.museum;
    private boolean open;
    private final Reader reader = new Reader();
    private final History history = new History();
    private final Maker maker = new Maker();
    private final Lending lender = new Lending();
    /** The end of each plan (rows of 8) with none (column 0) and each slip. */
    private final int[] ends = new int[ROOM[PLAN] * (ROOM[SLIP] + 1)];
    /** How many of those that look() compares have each level (columns of 10) of each thing. */
    private final int[] alike = new int[ROOM[THING] * (TOP_LEVEL + 1)];
    private int mostLeft;
    private int trouble;
    private int fault;
    private int place;

    public MistakesLent() {
    }

    // ---- the museum

    public int feed(int a, int b, int c, int d, int e) {
        if (fed + FED_BYTES > TAPE_BYTES) {
            return NONE;
        }
        put(a);
        put(b);
        put(c);
        put(d);
        put(e);
        return fed;
    }

    private void put(int four) {
        for (int shift = 24; shift >= 0 && fed < TAPE_BYTES; shift -= 8) {
            tape[fed] = (byte) (four >> shift);
            fed++;
        }
    }

    public int museum(int n) {
        if (n < 0 || n > fed) {
            return refuse(A_NUMBER);
        }
        reader.read(tape, n);
        fed = 0;
        fault = reader.fault;
        place = reader.place;
        if (fault != 0) {
            return refuse(A_FAULT);
        }
        Museum before = museum;
        museum = reader.museum;
        reader.museum = before;
        open = true;
        runner.museum = museum;
        desk.empty();
        history.begin();
        maker.forget();
        lender.forget();
        return tell(museum.count[SLIP]);
    }

    public int fault() {
        return fault;
    }

    public int where() {
        return trouble == A_FAULT ? place : NONE;
    }

    private int refuse(int why) {
        trouble = why;
        return NONE;
    }

    private boolean deny(int why) {
        trouble = why;
        return false;
    }

    private int tell(int answer) {
        trouble = 0;
        return answer;
    }

    private boolean grant() {
        trouble = 0;
        return true;
    }

    private boolean has(int sort, int number) {
        return number >= 0 && number < museum.count[sort];
    }

    private boolean isChoice(int slip) {
        return slip == NO || has(SLIP, slip);
    }

    // ---- as told

    public int slip(int k, int what) {
        if (!has(SLIP, k)) {
            return refuse(NO_SUCH);
        }
        Slip slip = museum.slips[k];
        switch (what) {
            case 0:
                return tell(slip.mistake);
            case 1:
                return tell(slip.deed);
            case 2:
                return tell(slip.second);
            case 3:
                return tell(slip.often);
            case 4:
                return tell(desk.isCleaned(k) ? 1 : 0);
            default:
                return refuse(NO_SUCH);
        }
    }

    public int step(int plan, int i) {
        if (!has(PLAN, plan) || i < 0 || i >= museum.plans[plan].count) {
            return refuse(NO_SUCH);
        }
        return tell(museum.plans[plan].deed[i]);
    }

    public int person(int p, int what) {
        if (!has(PERSON, p) || what < 0 || what > 1) {
            return refuse(NO_SUCH);
        }
        return tell(what == 0 ? museum.kind[p] : museum.planOf[p]);
    }

    // ---- runs

    public int end(int plan, int slip, int other, int thing) {
        if (!isRun(plan, slip, other) || !has(THING, thing)) {
            return refuse(NO_SUCH);
        }
        runner.follow(museum.plans[plan], slip, other, STEPS_ROOM);
        return tell(runner.levels[thing]);
    }

    public int level(int plan, int slip, int steps, int thing) {
        if (!isRun(plan, slip, NO) || !has(THING, thing)) {
            return refuse(NO_SUCH);
        }
        if (steps < 0 || steps > museum.plans[plan].count) {
            return refuse(A_NUMBER);
        }
        runner.follow(museum.plans[plan], slip, NO, steps);
        return tell(runner.levels[thing]);
    }

    public int breaks(int plan, int slip, int other) {
        if (!isRun(plan, slip, other)) {
            return refuse(NO_SUCH);
        }
        runner.follow(museum.plans[plan], slip, other, STEPS_ROOM);
        return tell(runner.brokeAt);
    }

    public int harm(int plan, int slip, int other) {
        if (!isRun(plan, slip, other)) {
            return refuse(NO_SUCH);
        }
        return tell(runner.costOf(museum.plans[plan], slip, other));
    }

    private boolean isRun(int plan, int slip, int other) {
        return has(PLAN, plan) && isChoice(slip) && isChoice(other);
    }

    public int fits(int slip) {
        if (!has(SLIP, slip)) {
            return refuse(NO_SUCH);
        }
        int bits = 0;
        for (int plan = 0; plan < museum.count[PLAN]; plan++) {
            if (runner.suits(museum.plans[plan], slip)) {
                bits |= 1 << plan;
            }
        }
        return tell(bits);
    }

    public int harmless(int plan) {
        if (!has(PLAN, plan)) {
            return refuse(NO_SUCH);
        }
        return tell(slipsUpTo(museum.plans[plan], 0));
    }

    public int good(int plan) {
        if (!has(PLAN, plan)) {
            return refuse(NO_SUCH);
        }
        return tell(slipsUpTo(museum.plans[plan], -1));
    }

    /** Slips that fit with at most so much more harm than without, as bits. */
    private int slipsUpTo(Steps plan, int more) {
        int without = runner.costOf(plan, NO, NO);
        int bits = 0;
        for (int slip = 0; slip < museum.count[SLIP]; slip++) {
            if (runner.suits(plan, slip) && runner.costOf(plan, slip, NO) <= without + more) {
                bits |= 1 << slip;
            }
        }
        return bits;
    }

    public int extreme(int plan, boolean worst) {
        if (!has(PLAN, plan)) {
            return refuse(NO_SUCH);
        }
        Steps steps = museum.plans[plan];
        int found = NO;
        int soFar = 0;
        for (int slip = 0; slip < museum.count[SLIP]; slip++) {
            if (runner.suits(steps, slip)) {
                int cost = runner.costOf(steps, slip, NO);
                if (found == NO || (worst ? cost > soFar : cost < soFar)) {
                    found = slip;
                    soFar = cost;
                }
            }
        }
        return tell(found);
    }

    public int cancels(int plan) {
        if (!has(PLAN, plan)) {
            return refuse(NO_SUCH);
        }
        return tell(cancelling(museum.plans[plan], NONE));
    }

    public int cancel(int plan, int i) {
        if (!has(PLAN, plan) || i < 0) {
            return refuse(NO_SUCH);
        }
        int two = cancelling(museum.plans[plan], i);
        return two < 0 ? refuse(NO_SUCH) : tell(two);
    }

    /** The wanted one of those that cancel, NONE if there are fewer; how many, if NONE is wanted. */
    private int cancelling(Steps plan, int wanted) {
        int without = runner.endOf(plan, NO, NO);
        int found = 0;
        for (int lesser = 0; lesser < museum.count[SLIP]; lesser++) {
            if (changesEnd(plan, lesser, without)) {
                for (int greater = lesser + 1; greater < museum.count[SLIP]; greater++) {
                    if (changesEnd(plan, greater, without) && runner.endOf(plan, lesser, greater) == without) {
                        if (found == wanted) {
                            return 10 * lesser + greater;
                        }
                        found++;
                    }
                }
            }
        }
        return wanted == NONE ? found : NONE;
    }

    private boolean changesEnd(Steps plan, int slip, int without) {
        return runner.suits(plan, slip) && runner.endOf(plan, slip, NO) != without;
    }

    public int worstTwo(int plan) {
        if (!has(PLAN, plan)) {
            return refuse(NO_SUCH);
        }
        Steps steps = museum.plans[plan];
        int most = -1;
        for (int slip = 0; slip < museum.count[SLIP]; slip++) {
            if (runner.suits(steps, slip)) {
                for (int other = 0; other < museum.count[SLIP]; other++) {
                    if (runner.suits(steps, other)) {
                        most = Math.max(most, runner.costOf(steps, slip, other));
                    }
                }
            }
        }
        return tell(most < 0 ? runner.costOf(steps, NO, NO) : most);
    }

    // ---- which it was

    public int which() {
        if (!endIsTold()) {
            return NONE;
        }
        int bits = 0;
        for (int slip = 0; slip < museum.count[SLIP]; slip++) {
            if (canHaveBeen(slip)) {
                bits |= 1 << slip;
            }
        }
        return tell(bits);
    }

    public int whichNone() {
        if (!endIsTold()) {
            return NONE;
        }
        return tell(canHaveBeen(NO) ? 1 : 0);
    }

    public int likeliest() {
        if (!endIsTold()) {
            return NONE;
        }
        boolean none = canHaveBeen(NO);
        int found = none ? NO : NOTHING_CAN_BE;
        int most = none ? NONE_OFTEN : 0;
        for (int slip = 0; slip < museum.count[SLIP]; slip++) {
            if (museum.slips[slip].often > most && canHaveBeen(slip)) {
                found = slip;
                most = museum.slips[slip].often;
            }
        }
        return tell(found);
    }

    /** Whether an end was told; refuses the call if not. */
    private boolean endIsTold() {
        if (!open) {
            return deny(NO_SUCH);
        }
        if (museum.count[ENDS] == 0) {
            return deny(THERE_IS_NONE);
        }
        return true;
    }

    private boolean canHaveBeen(int slip) {
        Steps plan = museum.plans[museum.endedPlan];
        return (slip == NO || runner.suits(plan, slip)) && runner.endOf(plan, slip, NO) == museum.endSeen;
    }

    public int look(int plan) {
        if (!has(PLAN, plan)) {
            return refuse(NO_SUCH);
        }
        return tell(bestLook(museum.plans[plan]));
    }

    public int lookMost(int plan) {
        if (!has(PLAN, plan)) {
            return refuse(NO_SUCH);
        }
        bestLook(museum.plans[plan]);
        return tell(mostLeft);
    }

    /** Where to look, 10 times the steps and the thing; mostLeft is then how many may be left. */
    private int bestLook(Steps plan) {
        int found = 0;
        mostLeft = museum.count[SLIP] + 2;
        for (int steps = 0; steps <= plan.count; steps++) {
            countAlike(plan, steps);
            for (int thing = 0; thing < museum.count[THING]; thing++) {
                int left = mostAlike(thing);
                if (left < mostLeft) {
                    mostLeft = left;
                    found = 10 * steps + thing;
                }
            }
        }
        return found;
    }

    private void countAlike(Steps plan, int steps) {
        for (int i = 0; i < alike.length; i++) {
            alike[i] = 0;
        }
        addAlike(plan, NO, steps);
        for (int slip = 0; slip < museum.count[SLIP]; slip++) {
            if (runner.suits(plan, slip)) {
                addAlike(plan, slip, steps);
            }
        }
    }

    private void addAlike(Steps plan, int slip, int steps) {
        runner.follow(plan, slip, NO, steps);
        for (int thing = 0; thing < museum.count[THING]; thing++) {
            alike[thing * (TOP_LEVEL + 1) + runner.levels[thing]]++;
        }
    }

    private int mostAlike(int thing) {
        int most = 0;
        for (int level = 0; level <= TOP_LEVEL; level++) {
            most = Math.max(most, alike[thing * (TOP_LEVEL + 1) + level]);
        }
        return most;
    }

    // ---- plans that bear

    public int bears(int plan) {
        if (!has(PLAN, plan)) {
            return refuse(NO_SUCH);
        }
        return tell(runner.bearsAll(museum.plans[plan], ANY_HARM) ? 1 : 0);
    }

    public int made(int plan) {
        if (!has(PLAN, plan)) {
            return refuse(NO_SUCH);
        }
        maker.find(runner, plan);
        return tell(maker.number[plan]);
    }

    public int madeAt(int plan, int i) {
        if (!has(PLAN, plan)) {
            return refuse(NO_SUCH);
        }
        maker.find(runner, plan);
        if (i < 0 || i >= maker.number[plan]) {
            return refuse(NO_SUCH);
        }
        return tell(i == 0 ? maker.first[plan] : maker.second[plan]);
    }

    // ---- told apart

    public int apart() {
        if (!open) {
            return refuse(NO_SUCH);
        }
        fillEnds();
        int all = (1 << museum.count[PLAN]) - 1;
        int found = all;
        for (int plans = all - 1; plans >= 0; plans--) {
            if (Integer.bitCount(plans) <= Integer.bitCount(found) && tellAllApart(plans)) {
                found = plans;
            }
        }
        return tell(found);
    }

    public int copies() {
        if (!open) {
            return refuse(NO_SUCH);
        }
        fillEnds();
        int all = (1 << museum.count[PLAN]) - 1;
        int bits = 0;
        for (int slip = 2; slip <= museum.count[SLIP]; slip++) {
            for (int ahead = 1; ahead < slip; ahead++) {
                if (!differ(ahead, slip, all)) {
                    bits |= 1 << (slip - 1);
                }
            }
        }
        return tell(bits);
    }

    private void fillEnds() {
        for (int plan = 0; plan < museum.count[PLAN]; plan++) {
            int row = plan * (ROOM[SLIP] + 1);
            ends[row] = runner.endOf(museum.plans[plan], NO, NO);
            for (int slip = 0; slip < museum.count[SLIP]; slip++) {
                ends[row + slip + 1] = runner.endOf(museum.plans[plan], slip, NO);
            }
        }
    }

    /** Whether these plans tell apart whatever all plans do; columns of the ends: 0 is none. */
    private boolean tellAllApart(int plans) {
        int all = (1 << museum.count[PLAN]) - 1;
        for (int greater = 1; greater <= museum.count[SLIP]; greater++) {
            for (int lesser = 0; lesser < greater; lesser++) {
                if (differ(lesser, greater, all) && !differ(lesser, greater, plans)) {
                    return false;
                }
            }
        }
        return true;
    }

    private boolean differ(int column, int other, int plans) {
        for (int plan = 0; plan < museum.count[PLAN]; plan++) {
            int row = plan * (ROOM[SLIP] + 1);
            if ((plans >> plan & 1) != 0 && ends[row + column] != ends[row + other]) {
                return true;
            }
        }
        return false;
    }

    // ---- lending

    public int worth(int ask) {
        if (!has(ASKS, ask)) {
            return refuse(NO_SUCH);
        }
        return tell(runner.worthOf(ask));
    }

    public int lending() {
        if (!open) {
            return refuse(NO_SUCH);
        }
        lender.find(runner);
        return tell(lender.total);
    }

    public int weekOf(int ask) {
        if (!has(ASKS, ask)) {
            return refuse(NO_SUCH);
        }
        lender.find(runner);
        return tell(lender.best[ask]);
    }

    // ---- a game, decades

    public int rests(int p, int q) {
        if (!arePlayers(p, q)) {
            return refuse(NO_SUCH);
        }
        return tell(countWorst(planOf(q)) * countWorst(planOf(p)));
    }

    public int rest(int p, int q) {
        if (!arePlayers(p, q)) {
            return refuse(NO_SUCH);
        }
        return tell(10 * (firstWorst(planOf(q)) + 1) + firstWorst(planOf(p)) + 1);
    }

    private boolean arePlayers(int p, int q) {
        return has(PERSON, p) && has(PERSON, q) && p != q;
    }

    private Steps planOf(int person) {
        return museum.plans[museum.planOf[person]];
    }

    /** The harm of a plan by a choice of the game: -1 is none, else the slip. */
    private int costOfChoice(Steps plan, int choice) {
        return runner.costOf(plan, choice < 0 ? NO : choice, NO);
    }

    /** The first choice with most harm: what one chooses has no bearing on his own harm, so each only wants that. */
    private int firstWorst(Steps plan) {
        int found = -1;
        int most = costOfChoice(plan, -1);
        for (int choice = 0; choice < museum.count[SLIP]; choice++) {
            int cost = costOfChoice(plan, choice);
            if (cost > most) {
                found = choice;
                most = cost;
            }
        }
        return found;
    }

    private int countWorst(Steps plan) {
        int most = costOfChoice(plan, firstWorst(plan));
        int number = 0;
        for (int choice = -1; choice < museum.count[SLIP]; choice++) {
            if (costOfChoice(plan, choice) == most) {
                number++;
            }
        }
        return number;
    }

    public int decade(int seed, int n) {
        if (!open) {
            return refuse(NO_SUCH);
        }
        int people = museum.count[PERSON];
        int slips = museum.count[SLIP];
        if (people <= 0 || slips <= 0) {
            return refuse(THERE_IS_NONE);
        }
        if (seed < 0 || seed >= SEEDS || n < 0 || n > DECADE_WEEKS) {
            return refuse(A_NUMBER);
        }
        int draw = seed;
        int all = 0;
        for (int week = 0; week < n; week++) {
            draw = nextDraw(draw);
            Steps plan = planOf(draw % people);
            draw = nextDraw(draw);
            all += runner.costOf(plan, draw % slips, NO);
        }
        return tell(all);
    }

    private static int nextDraw(int draw) {
        return (75 * draw + 74) % SEEDS;
    }

    // ---- the desk

    public int who(int slip) {
        if (!has(SLIP, slip)) {
            return refuse(NO_SUCH);
        }
        return tell(desk.holder[slip]);
    }

    public int overdue() {
        if (!open) {
            return refuse(NO_SUCH);
        }
        int bits = 0;
        for (int slip = 0; slip < museum.count[SLIP]; slip++) {
            if (desk.isOut(slip) && desk.weeks - desk.since[slip] > museum.weeks) {
                bits |= 1 << slip;
            }
        }
        return tell(bits);
    }

    public boolean lend(int slip, int p) {
        if (!has(SLIP, slip) || !has(PERSON, p)) {
            return deny(NO_SUCH);
        }
        if (desk.isOut(slip) || desk.hasOne(p) || !runner.mayHave(p, slip)) {
            return deny(NOT_SO);
        }
        history.remember(desk);
        desk.holder[slip] = p;
        desk.since[slip] = desk.weeks;
        return grant();
    }

    public int bring(int slip, boolean made) {
        if (!has(SLIP, slip)) {
            return refuse(NO_SUCH);
        }
        if (!desk.isOut(slip)) {
            return refuse(NOT_SO);
        }
        int cost = made ? runner.costOf(planOf(desk.holder[slip]), slip, NO) : 0;
        history.remember(desk);
        desk.holder[slip] = NO;
        desk.done += cost;
        return tell(cost);
    }

    public boolean clean(int slip) {
        if (!has(SLIP, slip)) {
            return deny(NO_SUCH);
        }
        if (desk.isCleaned(slip) || desk.isOut(slip)) {
            return deny(NOT_SO);
        }
        history.remember(desk);
        desk.cleaned |= 1 << slip;
        return grant();
    }

    public int week() {
        if (!open) {
            return refuse(NO_SUCH);
        }
        history.remember(desk);
        desk.weeks++;
        return tell(desk.weeks);
    }

    public boolean undo() {
        return history.takeBack(desk) ? grant() : deny(THERE_IS_NONE);
    }

    public int image() {
        if (!open) {
            return refuse(NO_SUCH);
        }
        int number = history.keepImage(desk);
        return number < 0 ? refuse(NO_ROOM) : tell(number);
    }

    public boolean back(int image) {
        return history.returnTo(image, desk) ? grant() : deny(NO_SUCH);
    }

    // ---- what is told

    public int led(int i) throws NoSuchElementException {
        int found = 0;
        for (int slip = 0; slip < museum.count[SLIP]; slip++) {
            if (desk.isOut(slip)) {
                if (found == i) {
                    return slip;
                }
                found++;
            }
        }
        throw new NoSuchElementException("no such slip is out");
    }

    public int size(int what) {
        switch (what) {
            case 0:
                return museum.weeks;
            case 1:
                return museum.breaks;
            case 2:
                return museum.fine;
            case 3:
                return museum.grown;
            case 4:
                return museum.count[THING];
            case 5:
                return museum.count[DEED];
            case 6:
                return museum.count[PLAN];
            case 7:
                return museum.count[SLIP];
            case 8:
                return museum.count[PERSON];
            case 9:
                return museum.count[ASKS];
            case 10:
                return museum.count[HARM];
            case 11:
                return desk.weeks;
            case 12:
                return desk.done;
            case 13:
                return history.kept;
            case 14:
                return history.pictured;
            case 15:
                return fed;
            default:
                return NONE;
        }
    }

    public int trouble() {
        return trouble;
    }

    /** A thing's level above a bound, or below it. */
    private static final class Need {
        int thing;
        boolean over;
        int bound;

        boolean isSo(int[] levels) {
            return over ? levels[thing] > bound : levels[thing] < bound;
        }
    }

    private static final class Deed {
        int effects;
        final int[] thing = new int[EFFECTS];
        final int[] change = new int[EFFECTS];
        boolean needy;
        final Need need = new Need();

        void affect(int[] levels, boolean turned) {
            for (int i = 0; i < effects; i++) {
                int level = levels[thing[i]] + (turned ? -change[i] : change[i]);
                levels[thing[i]] = Math.max(0, Math.min(TOP_LEVEL, level));
            }
        }
    }

    /** The steps of a plan, as told or as slips have made it. */
    private static final class Steps {
        int count;
        final int[] deed = new int[STEPS_ROOM];
        final boolean[] turned = new boolean[STEPS_ROOM];

        void copy(Steps other) {
            count = other.count;
            for (int i = 0; i < count; i++) {
                deed[i] = other.deed[i];
                turned[i] = other.turned[i];
            }
        }

        void insert(int at, int which, boolean isTurned) {
            if (at < 0 || at > count || count >= STEPS_ROOM) {
                return;
            }
            for (int i = count; i > at; i--) {
                deed[i] = deed[i - 1];
                turned[i] = turned[i - 1];
            }
            deed[at] = which;
            turned[at] = isTurned;
            count++;
        }

        void remove(int at) {
            if (at < 0 || at >= count) {
                return;
            }
            count--;
            for (int i = at; i < count; i++) {
                deed[i] = deed[i + 1];
                turned[i] = turned[i + 1];
            }
        }

        void swapWithAhead(int at) {
            if (at < 1 || at >= count) {
                return;
            }
            int which = deed[at];
            boolean isTurned = turned[at];
            deed[at] = deed[at - 1];
            turned[at] = turned[at - 1];
            deed[at - 1] = which;
            turned[at - 1] = isTurned;
        }
    }

    private static final class Slip {
        int mistake;
        int deed;
        int second;
        int often;
    }

    /** What a text tells. */
    private static final class Museum {
        /** How many of each sort of lines. */
        final int[] count = new int[ROOM.length];
        int weeks;
        int breaks;
        int fine;
        int grown;
        final int[] atFirst = new int[ROOM[THING]];
        final Need[] harms = new Need[ROOM[HARM]];
        final int[] costs = new int[ROOM[HARM]];
        final Deed[] deeds = new Deed[ROOM[DEED]];
        final Steps[] plans = new Steps[ROOM[PLAN]];
        final Slip[] slips = new Slip[ROOM[SLIP]];
        final int[] kind = new int[ROOM[PERSON]];
        final int[] planOf = new int[ROOM[PERSON]];
        final int[] asker = new int[ROOM[ASKS]];
        final int[] asked = new int[ROOM[ASKS]];
        final int[] pays = new int[ROOM[ASKS]];
        int endedPlan;
        /** The levels that were seen, a decimal place each. */
        int endSeen;

        Museum() {
            for (int i = 0; i < harms.length; i++) {
                harms[i] = new Need();
            }
            for (int i = 0; i < deeds.length; i++) {
                deeds[i] = new Deed();
            }
            for (int i = 0; i < plans.length; i++) {
                plans[i] = new Steps();
            }
            for (int i = 0; i < slips.length; i++) {
                slips[i] = new Slip();
            }
        }
    }

    /** The tokens of a text, one at a time. */
    private static final class Tokens {
        static final int END = 0;
        static final int WORD = 1;
        static final int WHOLE = 2;
        static final int SEMICOLON = 3;
        static final int COMMA = 4;
        static final int BAD = 5;

        private byte[] text = new byte[0];
        private int length;
        int kind;
        /** Where the token begins, and where what follows it does. */
        int place;
        private int behind;
        /** A whole's number; a word's letters as one number, five bits a letter. */
        int number;
        long letters;

        void begin(byte[] tape, int bytes) {
            text = tape;
            length = Math.max(0, Math.min(bytes, tape.length));
            behind = 0;
            next();
        }

        void next() {
            place = behind;
            while (place < length && text[place] == ' ') {
                place++;
            }
            behind = place;
            if (place >= length) {
                kind = END;
                return;
            }
            byte sign = text[place];
            if (sign >= 'a' && sign <= 'z') {
                takeWord();
            } else if (sign >= '0' && sign <= '9') {
                takeWhole();
            } else {
                behind++;
                kind = sign == ';' ? SEMICOLON : sign == ',' ? COMMA : BAD;
            }
        }

        private void takeWord() {
            letters = 0;
            while (behind < length && text[behind] >= 'a' && text[behind] <= 'z') {
                letters = letters * 32 + (text[behind] - 'a' + 1);
                behind++;
            }
            kind = behind - place <= 8 ? WORD : BAD;
        }

        private void takeWhole() {
            number = 0;
            while (behind < length && text[behind] >= '0' && text[behind] <= '9') {
                number = number * 10 + (text[behind] - '0');
                behind++;
            }
            kind = behind - place <= 2 ? WHOLE : BAD;
        }

        boolean says(String word) {
            if (kind != WORD || behind - place != word.length()) {
                return false;
            }
            for (int i = 0; i < word.length(); i++) {
                if (text[place + i] != word.charAt(i)) {
                    return false;
                }
            }
            return true;
        }
    }

    /** Reads a text, up to its first fault. */
    private static final class Reader {
        private final Tokens tokens = new Tokens();
        /** The words that are no names, those of the lines by their sorts, and behind them the names told. */
        private final long[] names = new long[NAMES];
        private final int[] sorts = new int[NAMES];
        private final int[] numbers = new int[NAMES];
        private int named;
        /** One of its own, so that the museum stays if the text has a fault. */
        Museum museum = new Museum();
        /** What the latest whole, or name in use, told, and where the name stood. */
        private int value;
        private int nameAt;
        int fault;
        int place;

        Reader() {
            names[MUSEUM] = lettersOf("museum");
            names[THING] = lettersOf("thing");
            names[HARM] = lettersOf("harm");
            names[DEED] = lettersOf("deed");
            names[PLAN] = lettersOf("plan");
            names[SLIP] = lettersOf("slip");
            names[PERSON] = lettersOf("person");
            names[ASKS] = lettersOf("asks");
            names[ENDS] = lettersOf("ends");
            names[IF] = lettersOf("if");
        }

        /** As the tokens tell a word's letters. */
        private static long lettersOf(String word) {
            long letters = 0;
            for (int i = 0; i < word.length(); i++) {
                letters = letters * 32 + (word.charAt(i) - 'a' + 1);
            }
            return letters;
        }

        void read(byte[] tape, int length) {
            for (int sort = 0; sort < ROOM.length; sort++) {
                museum.count[sort] = 0;
            }
            named = FIRST_NAME;
            fault = 0;
            place = 0;
            tokens.begin(tape, length);
            for (int lines = 0; lines <= length; lines++) {
                int sort = findName();
                if (!mayBegin(sort)) {
                    return;
                }
                tokens.next();
                if (!tellLine(sort)) {
                    return;
                }
                museum.count[sort]++;
                if (tokens.kind == Tokens.END) {
                    checkWhole();
                    return;
                }
                if (tokens.kind != Tokens.SEMICOLON) {
                    fail(FORM);
                    return;
                }
                tokens.next();
            }
        }

        private boolean fail(int which) {
            return failAt(which, tokens.place);
        }

        private boolean failAt(int which, int at) {
            fault = which;
            place = at;
            return false;
        }

        /** Of faults of one place the least counts, so they are looked for in that order. */
        private boolean mayBegin(int sort) {
            if (sort < 0 || sort > ENDS) {
                return fail(FORM);
            }
            int told = museum.count[sort];
            if (told > 0 && (sort == MUSEUM || sort == ENDS)) {
                return fail(AGAIN);
            }
            if (told >= ROOM[sort]) {
                return fail(MANY);
            }
            boolean ahead = sort != MUSEUM && museum.count[MUSEUM] == 0;
            if (ahead || (sort == THING && museum.count[ENDS] > 0)) {
                return fail(LACKS);
            }
            return true;
        }

        private boolean checkWhole() {
            return museum.count[THING] > 0 && museum.count[PLAN] > 0 || fail(LACKS);
        }

        private boolean tellLine(int sort) {
            switch (sort) {
                case MUSEUM:
                    return tellMuseum();
                case THING:
                    return tellThing(museum.count[THING]);
                case HARM:
                    return tellHarm(museum.count[HARM]);
                case DEED:
                    return tellDeed(museum.deeds[museum.count[DEED]]);
                case PLAN:
                    return tellPlan(museum.plans[museum.count[PLAN]]);
                case SLIP:
                    return tellSlip(museum.slips[museum.count[SLIP]]);
                case PERSON:
                    return tellPerson(museum.count[PERSON]);
                case ASKS:
                    return tellAsk(museum.count[ASKS]);
                default:
                    return tellEnds();
            }
        }

        private boolean word(String wanted) {
            if (!tokens.says(wanted)) {
                return fail(FORM);
            }
            tokens.next();
            return true;
        }

        private boolean whole(int least, int most) {
            if (tokens.kind != Tokens.WHOLE) {
                return fail(FORM);
            }
            if (tokens.number < least || tokens.number > most) {
                return fail(BOUNDS);
            }
            value = tokens.number;
            tokens.next();
            return true;
        }

        /** Where the token stands among the words that are no names and the names told; NONE if nowhere. */
        private int findName() {
            if (tokens.kind != Tokens.WORD) {
                return NONE;
            }
            for (int i = 0; i < named; i++) {
                if (names[i] == tokens.letters) {
                    return i;
                }
            }
            return NONE;
        }

        private boolean newName(int sort) {
            int found = findName();
            if (tokens.kind != Tokens.WORD || (found >= 0 && found < FIRST_NAME)) {
                return fail(FORM);
            }
            if (found >= 0) {
                return fail(AGAIN);
            }
            if (named < NAMES) {
                names[named] = tokens.letters;
                sorts[named] = sort;
                numbers[named] = museum.count[sort];
                named++;
            }
            tokens.next();
            return true;
        }

        private boolean usedName(int sort) {
            int found = findName();
            if (tokens.kind != Tokens.WORD || (found >= 0 && found < FIRST_NAME)) {
                return fail(FORM);
            }
            if (found < 0 || sorts[found] != sort) {
                return fail(NOT_TOLD);
            }
            value = numbers[found];
            nameAt = tokens.place;
            tokens.next();
            return true;
        }

        private boolean tellMuseum() {
            if (!word("weeks") || !whole(1, MOST_WEEKS)) {
                return false;
            }
            museum.weeks = value;
            if (!word("breaks") || !whole(0, 99)) {
                return false;
            }
            museum.breaks = value;
            if (!word("fine") || !whole(0, 9)) {
                return false;
            }
            museum.fine = value;
            if (!word("grown") || !whole(0, 99)) {
                return false;
            }
            museum.grown = value;
            return true;
        }

        private boolean tellThing(int thing) {
            if (!newName(THING) || !whole(0, TOP_LEVEL)) {
                return false;
            }
            museum.atFirst[thing] = value;
            return true;
        }

        private boolean tellNeed(Need need) {
            if (!usedName(THING)) {
                return false;
            }
            need.thing = value;
            need.over = tokens.says("over");
            if (!need.over && !tokens.says("under")) {
                return fail(FORM);
            }
            tokens.next();
            if (!whole(0, TOP_LEVEL)) {
                return false;
            }
            need.bound = value;
            return true;
        }

        private boolean tellHarm(int harm) {
            if (!tellNeed(museum.harms[harm]) || !word("costs") || !whole(1, 99)) {
                return false;
            }
            museum.costs[harm] = value;
            return true;
        }

        private boolean tellDeed(Deed deed) {
            if (!newName(DEED)) {
                return false;
            }
            deed.effects = 0;
            for (int i = 0; i <= EFFECTS; i++) {
                if (!tellEffect(deed)) {
                    return false;
                }
                if (tokens.kind != Tokens.COMMA) {
                    break;
                }
                tokens.next();
            }
            deed.needy = tokens.says("if");
            if (!deed.needy) {
                return true;
            }
            tokens.next();
            return tellNeed(deed.need);
        }

        private boolean tellEffect(Deed deed) {
            boolean adds = tokens.says("adds");
            if (!adds && !tokens.says("takes")) {
                return fail(FORM);
            }
            int effect = deed.effects;
            if (effect >= EFFECTS) {
                return fail(MANY);
            }
            tokens.next();
            if (!usedName(THING)) {
                return false;
            }
            if (effect > 0 && deed.thing[0] == value) {
                return failAt(AGAIN, nameAt);
            }
            deed.thing[effect] = value;
            if (!whole(1, 9)) {
                return false;
            }
            deed.change[effect] = adds ? value : -value;
            deed.effects++;
            return true;
        }

        private boolean tellPlan(Steps plan) {
            if (!newName(PLAN)) {
                return false;
            }
            plan.count = 0;
            for (int i = 0; i <= PLAN_STEPS; i++) {
                if (!usedName(DEED)) {
                    return false;
                }
                if (plan.count >= PLAN_STEPS) {
                    return failAt(MANY, nameAt);
                }
                plan.insert(plan.count, value, false);
                if (tokens.kind != Tokens.COMMA) {
                    break;
                }
                tokens.next();
            }
            return true;
        }

        private boolean tellSlip(Slip slip) {
            if (!newName(SLIP)) {
                return false;
            }
            slip.mistake = mistake();
            if (slip.mistake < 0) {
                return fail(FORM);
            }
            tokens.next();
            if (!usedName(DEED)) {
                return false;
            }
            slip.deed = value;
            slip.second = NO;
            if (slip.mistake == INSTEAD) {
                if (!usedName(DEED)) {
                    return false;
                }
                if (value == slip.deed) {
                    return failAt(AGAIN, nameAt);
                }
                slip.second = value;
            }
            if (!word("often") || !whole(1, 9)) {
                return false;
            }
            slip.often = value;
            return true;
        }

        private int mistake() {
            if (tokens.says("left")) {
                return LEFT;
            }
            if (tokens.says("twice")) {
                return TWICE;
            }
            if (tokens.says("turned")) {
                return TURNED;
            }
            if (tokens.says("early")) {
                return EARLY;
            }
            return tokens.says("for") ? INSTEAD : NONE;
        }

        private boolean tellPerson(int person) {
            if (!newName(PERSON)) {
                return false;
            }
            int kind = tokens.says("grown") ? GROWN
                : tokens.says("child") ? CHILD
                : tokens.says("donor") ? DONOR : NONE;
            if (kind < 0) {
                return fail(FORM);
            }
            museum.kind[person] = kind;
            tokens.next();
            if (!usedName(PLAN)) {
                return false;
            }
            museum.planOf[person] = value;
            return true;
        }

        private boolean tellAsk(int ask) {
            if (!usedName(PERSON)) {
                return false;
            }
            museum.asker[ask] = value;
            if (!usedName(SLIP)) {
                return false;
            }
            museum.asked[ask] = value;
            for (int i = 0; i < ask; i++) {
                if (museum.asker[i] == museum.asker[ask] && museum.asked[i] == value) {
                    return failAt(AGAIN, nameAt);
                }
            }
            if (!word("pays") || !whole(0, 99)) {
                return false;
            }
            museum.pays[ask] = value;
            return true;
        }

        private boolean tellEnds() {
            if (!usedName(PLAN)) {
                return false;
            }
            museum.endedPlan = value;
            int seen = 0;
            for (int thing = 0; thing < museum.count[THING]; thing++) {
                if (thing > 0) {
                    if (tokens.kind != Tokens.COMMA) {
                        return fail(FORM);
                    }
                    tokens.next();
                }
                if (!whole(0, TOP_LEVEL)) {
                    return false;
                }
                seen = seen * 10 + value;
            }
            museum.endSeen = seen;
            return true;
        }
    }

    /** What the acts of the desk change. */
    private static final class Desk {
        final int[] holder = new int[ROOM[SLIP]];
        /** The week in which each slip that is out was lent. */
        final int[] since = new int[ROOM[SLIP]];
        /** Slips as bits. */
        int cleaned;
        int weeks;
        int done;

        void empty() {
            for (int slip = 0; slip < holder.length; slip++) {
                holder[slip] = NO;
                since[slip] = 0;
            }
            cleaned = 0;
            weeks = 0;
            done = 0;
        }

        void copy(Desk other) {
            for (int slip = 0; slip < holder.length; slip++) {
                holder[slip] = other.holder[slip];
                since[slip] = other.since[slip];
            }
            cleaned = other.cleaned;
            weeks = other.weeks;
            done = other.done;
        }

        boolean isCleaned(int slip) {
            return (cleaned >> slip & 1) != 0;
        }

        boolean isOut(int slip) {
            return holder[slip] != NO;
        }

        boolean hasOne(int person) {
            for (int slip = 0; slip < holder.length; slip++) {
                if (holder[slip] == person) {
                    return true;
                }
            }
            return false;
        }
    }

    /** The desk as it was ahead of each of the latest acts (a ring), and by each image. */
    private static final class History {
        private final Desk[] past = new Desk[ACTS_KEPT];
        private int newest;
        int kept;
        private final Desk[] images = new Desk[IMAGES_KEPT];
        int pictured;

        History() {
            for (int i = 0; i < past.length; i++) {
                past[i] = new Desk();
            }
            for (int i = 0; i < images.length; i++) {
                images[i] = new Desk();
            }
        }

        void begin() {
            kept = 0;
            pictured = 0;
        }

        void remember(Desk now) {
            newest = newest + 1 < ACTS_KEPT ? newest + 1 : 0;
            past[newest].copy(now);
            kept = Math.min(kept + 1, ACTS_KEPT);
        }

        boolean takeBack(Desk now) {
            if (kept == 0) {
                return false;
            }
            now.copy(past[newest]);
            newest = newest > 0 ? newest - 1 : ACTS_KEPT - 1;
            kept--;
            return true;
        }

        int keepImage(Desk now) {
            if (pictured >= IMAGES_KEPT) {
                return NONE;
            }
            images[pictured].copy(now);
            pictured++;
            return pictured - 1;
        }

        boolean returnTo(int number, Desk now) {
            if (number < 0 || number >= pictured) {
                return false;
            }
            now.copy(images[number]);
            kept = 0;
            return true;
        }
    }

    /** Runs plans with slips, those that are cleaned changing nothing. */
    private static final class Runner {
        Museum museum = new Museum();
        final Desk desk = new Desk();
        private final Steps course = new Steps();
        /** Of the latest run. */
        final int[] levels = new int[ROOM[THING]];
        int brokeAt = NO;
        private int cost;

        boolean suits(Steps steps, int slip) {
            return stepOf(steps, slip) >= 0;
        }

        /** The step at which a slip is made; NONE if it doesn't fit. */
        private int stepOf(Steps steps, int slip) {
            if ((desk.cleaned >> slip & 1) != 0) {
                return NONE;
            }
            int wanted = museum.slips[slip].deed;
            int from = museum.slips[slip].mistake == EARLY ? 1 : 0;
            for (int i = from; i < steps.count; i++) {
                if (steps.deed[i] == wanted) {
                    return i;
                }
            }
            return NONE;
        }

        private void make(int slip) {
            int at = stepOf(course, slip);
            if (at < 0) {
                return;
            }
            switch (museum.slips[slip].mistake) {
                case LEFT:
                    course.remove(at);
                    break;
                case TWICE:
                    course.insert(at + 1, course.deed[at], course.turned[at]);
                    break;
                case TURNED:
                    course.turned[at] = !course.turned[at];
                    break;
                case EARLY:
                    course.swapWithAhead(at);
                    break;
                default:
                    course.deed[at] = museum.slips[slip].second;
                    course.turned[at] = false;
                    break;
            }
        }

        /** Runs a plan with two slips, or NO, for at most so many steps. */
        void follow(Steps plan, int slip, int other, int most) {
            course.copy(plan);
            if (slip != NO) {
                make(slip);
            }
            if (other != NO) {
                make(other);
            }
            for (int thing = 0; thing < museum.count[THING]; thing++) {
                levels[thing] = museum.atFirst[thing];
            }
            brokeAt = NO;
            int last = Math.min(most, course.count);
            for (int i = 0; i < last && brokeAt == NO; i++) {
                Deed deed = museum.deeds[course.deed[i]];
                if (deed.needy && !deed.need.isSo(levels)) {
                    brokeAt = i;
                } else {
                    deed.affect(levels, course.turned[i]);
                }
            }
            addCosts();
        }

        private void addCosts() {
            cost = brokeAt == NO ? 0 : museum.breaks;
            for (int harm = 0; harm < museum.count[HARM]; harm++) {
                if (museum.harms[harm].isSo(levels)) {
                    cost += museum.costs[harm];
                }
            }
        }

        /** The levels at the end, a decimal place each. */
        int endOf(Steps plan, int slip, int other) {
            follow(plan, slip, other, STEPS_ROOM);
            int seen = 0;
            for (int thing = 0; thing < museum.count[THING]; thing++) {
                seen = seen * 10 + levels[thing];
            }
            return seen;
        }

        int costOf(Steps plan, int slip, int other) {
            follow(plan, slip, other, STEPS_ROOM);
            return cost;
        }

        /** Whether a plan bears all slips, its harm without being no more than allowed. */
        boolean bearsAll(Steps plan, int allowed) {
            follow(plan, NO, NO, STEPS_ROOM);
            int without = cost;
            if (without > allowed) {
                return false;
            }
            for (int slip = 0; slip < museum.count[SLIP]; slip++) {
                if (suits(plan, slip)) {
                    follow(plan, slip, NO, STEPS_ROOM);
                    if (cost > without) {
                        return false;
                    }
                }
            }
            return true;
        }

        boolean mayHave(int person, int slip) {
            if (desk.isCleaned(slip)) {
                return false;
            }
            Steps plan = museum.plans[museum.planOf[person]];
            return museum.kind[person] != CHILD || costOf(plan, slip, NO) <= museum.grown;
        }

        int worthOf(int ask) {
            int person = museum.asker[ask];
            int slip = museum.asked[ask];
            if (!mayHave(person, slip)) {
                return NO;
            }
            int paid = museum.kind[person] == DONOR ? 0 : museum.pays[ask];
            Steps plan = museum.plans[museum.planOf[person]];
            return paid + museum.fine * costOf(plan, slip, NO);
        }
    }

    /** The fewest deeds put into a plan so that it bears all slips; kept, as it is much work. */
    private static final class Maker {
        private final Steps one = new Steps();
        private final Steps two = new Steps();
        /** What was cleaned when a plan's answer was found. */
        private final int[] cleanedThen = new int[ROOM[PLAN]];
        final int[] number = new int[ROOM[PLAN]];
        final int[] first = new int[ROOM[PLAN]];
        final int[] second = new int[ROOM[PLAN]];

        void forget() {
            for (int plan = 0; plan < cleanedThen.length; plan++) {
                cleanedThen[plan] = NONE;
            }
        }

        void find(Runner runner, int plan) {
            if (cleanedThen[plan] == runner.desk.cleaned) {
                return;
            }
            cleanedThen[plan] = runner.desk.cleaned;
            Steps told = runner.museum.plans[plan];
            int allowed = runner.costOf(told, NO, NO);
            if (runner.bearsAll(told, allowed)) {
                number[plan] = 0;
            } else if (findOne(runner, plan, allowed)) {
                number[plan] = 1;
            } else {
                number[plan] = findTwo(runner, plan, allowed) ? 2 : NO;
            }
        }

        private boolean findOne(Runner runner, int plan, int allowed) {
            Steps told = runner.museum.plans[plan];
            for (int at = 0; at <= told.count; at++) {
                for (int deed = 0; deed < runner.museum.count[DEED]; deed++) {
                    one.copy(told);
                    one.insert(at, deed, false);
                    if (runner.bearsAll(one, allowed)) {
                        first[plan] = 10 * at + deed;
                        return true;
                    }
                }
            }
            return false;
        }

        private boolean findTwo(Runner runner, int plan, int allowed) {
            Steps told = runner.museum.plans[plan];
            for (int at = 0; at <= told.count; at++) {
                for (int deed = 0; deed < runner.museum.count[DEED]; deed++) {
                    one.copy(told);
                    one.insert(at, deed, false);
                    int added = findSecond(runner, allowed);
                    if (added >= 0) {
                        first[plan] = 10 * at + deed;
                        second[plan] = added;
                        return true;
                    }
                }
            }
            return false;
        }

        private int findSecond(Runner runner, int allowed) {
            for (int at = 0; at <= one.count; at++) {
                for (int deed = 0; deed < runner.museum.count[DEED]; deed++) {
                    two.copy(one);
                    two.insert(at, deed, false);
                    if (runner.bearsAll(two, allowed)) {
                        return 10 * at + deed;
                    }
                }
            }
            return NONE;
        }
    }

    /** Who gets which slip in which week; kept, as it is much work. */
    private static final class Lending {
        private int cleanedThen = NONE;
        private final int[] worths = new int[ROOM[ASKS]];
        /** What the asks from each on are worth at most. */
        private final int[] still = new int[ROOM[ASKS] + 1];
        /** Slips and people, as bits, that are taken in each week; none when choose() is over. */
        private final int[] slipsIn = new int[MOST_WEEKS];
        private final int[] peopleIn = new int[MOST_WEEKS];
        private final int[] tried = new int[ROOM[ASKS]];
        final int[] best = new int[ROOM[ASKS]];
        int total;

        void forget() {
            cleanedThen = NONE;
        }

        void find(Runner runner) {
            if (cleanedThen == runner.desk.cleaned) {
                return;
            }
            cleanedThen = runner.desk.cleaned;
            int asks = runner.museum.count[ASKS];
            still[asks] = 0;
            for (int ask = asks - 1; ask >= 0; ask--) {
                worths[ask] = runner.worthOf(ask);
                still[ask] = still[ask + 1] + Math.max(0, worths[ask]);
            }
            total = -1;
            choose(runner.museum, 0, 0);
        }

        /** Weeks are tried from the least, none last: of like ones the first is found first and stays. */
        private void choose(Museum museum, int ask, int sum) {
            if (sum + still[ask] <= total) {
                return;
            }
            if (ask >= museum.count[ASKS]) {
                total = sum;
                for (int i = 0; i < ask; i++) {
                    best[i] = tried[i];
                }
                return;
            }
            int slipBit = 1 << museum.asked[ask];
            int personBit = 1 << museum.asker[ask];
            int weeks = worths[ask] < 0 ? 0 : museum.weeks;
            for (int week = 0; week < weeks; week++) {
                if ((slipsIn[week] & slipBit) == 0 && (peopleIn[week] & personBit) == 0) {
                    slipsIn[week] |= slipBit;
                    peopleIn[week] |= personBit;
                    tried[ask] = week;
                    choose(museum, ask + 1, sum + worths[ask]);
                    slipsIn[week] ^= slipBit;
                    peopleIn[week] ^= personBit;
                }
            }
            tried[ask] = NO;
            choose(museum, ask + 1, sum);
        }
    }
}
