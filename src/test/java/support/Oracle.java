import java.util.ArrayDeque;
import java.util.ArrayList;
import java.util.Arrays;
import java.util.HashMap;
import java.util.List;
import java.util.Map;
import java.util.NoSuchElementException;

/** The document once more, written as slowly and as near to its words as can be. */
final class Oracle {
    static final class Fault extends RuntimeException {
        private static final long serialVersionUID = 1L;
        final int number;
        final int place;

        Fault(int number, int place) {
            super("fault", null, false, false);
            this.number = number;
            this.place = place;
        }
    }

    static final class Token {
        String text;
        int place;
        char kind;
    }

    record Need(int thing, boolean over, int bound) {
        boolean so(int[] levels) {
            return over && levels[thing] > bound || !over && levels[thing] < bound;
        }
    }

    record Deed(int[][] effects, Need need) {
    }

    record Step(int deed, boolean turned) {
    }

    record Mistake(String kind, int deed, int second, int often) {
    }

    record Person(String kind, int plan) {
    }

    record Ask(int person, int slip, int pays) {
    }

    record Ran(int[] levels, int broke) {
    }

    /** A text's museum. */
    static final class World {
        int weeks;
        int breaks;
        int fine;
        int grown;
        List<Integer> things = new ArrayList<>();
        List<Need> harms = new ArrayList<>();
        List<Integer> costs = new ArrayList<>();
        List<Deed> deeds = new ArrayList<>();
        List<List<Step>> plans = new ArrayList<>();
        List<Mistake> slips = new ArrayList<>();
        List<Person> people = new ArrayList<>();
        List<Ask> asks = new ArrayList<>();
        int endPlan = -1;
        int[] endLevels = null;
    }

    record State(Map<Integer, Integer> holder, Map<Integer, Integer> since, List<Integer> cleaned, int week, int done) {
    }

    // ---- reading

    static final List<String> RESERVED =
        List.of("museum", "thing", "harm", "deed", "plan", "slip", "person", "asks", "ends", "if");

    static final class Parser {
        final List<Token> tokens = new ArrayList<>();
        int at = 0;
        final World world = new World();
        final Map<String, String> sortOf = new HashMap<>();
        final Map<String, Integer> numberOf = new HashMap<>();
        final Map<String, Integer> lines = new HashMap<>();

        Parser(String text) {
            int i = 0;
            while (i < text.length()) {
                if (text.charAt(i) == ' ') {
                    i++;
                    continue;
                }
                int j = i;
                String group = group(text.charAt(i));
                while (j < text.length() && group(text.charAt(j)).equals(group) && !group.equals("single")) {
                    j++;
                }
                if (group.equals("single")) {
                    j = i + 1;
                }
                Token token = new Token();
                token.text = text.substring(i, j);
                token.place = i;
                token.kind = '?';
                if (token.text.matches("[a-z]{1,8}")) {
                    token.kind = 'w';
                } else if (token.text.matches("[0-9]{1,2}")) {
                    token.kind = 'n';
                } else if (token.text.matches("[;,]")) {
                    token.kind = token.text.charAt(0);
                }
                tokens.add(token);
                i = j;
            }
            Token end = new Token();
            end.text = "";
            end.place = text.length();
            end.kind = '.';
            tokens.add(end);
        }

        private static String group(char c) {
            return c >= 'a' && c <= 'z' ? "letter" : c >= '0' && c <= '9' ? "digit" : "single";
        }

        Token now() {
            return tokens.get(at);
        }

        int place() {
            return now().place;
        }

        boolean is(String text) {
            return now().text.equals(text) && now().kind != '?' && now().kind != '.';
        }

        void must(boolean right, int fault) {
            if (!right) {
                throw new Fault(fault, place());
            }
        }

        void word(String text) {
            must(is(text), 1);
            at++;
        }

        String oneOf(String... texts) {
            for (String text : texts) {
                if (is(text)) {
                    at++;
                    return text;
                }
            }
            throw new Fault(1, place());
        }

        int whole(int least, int most) {
            must(now().kind == 'n', 1);
            int value = Integer.parseInt(now().text);
            must(value >= least && value <= most, 4);
            at++;
            return value;
        }

        void tell(String sort, int number) {
            must(now().kind == 'w' && !RESERVED.contains(now().text), 1);
            must(!sortOf.containsKey(now().text), 3);
            sortOf.put(now().text, sort);
            numberOf.put(now().text, number);
            at++;
        }

        /** Leaves the token, so that further faults are at its place. */
        int peek(String sort) {
            must(now().kind == 'w' && !RESERVED.contains(now().text), 1);
            must(sort.equals(sortOf.get(now().text)), 2);
            return numberOf.get(now().text);
        }

        int use(String sort) {
            int number = peek(sort);
            at++;
            return number;
        }

        World read() {
            while (true) {
                line();
                if (now().kind == '.') {
                    must(!world.things.isEmpty() && !world.plans.isEmpty(), 6);
                    return world;
                }
                word(";");
            }
        }

        void line() {
            String sort = now().text;
            must(now().kind == 'w' && RESERVED.indexOf(sort) >= 0 && RESERVED.indexOf(sort) < 9, 1);
            int told = lines.getOrDefault(sort, 0);
            must(!(List.of("museum", "ends").contains(sort) && told == 1), 3);
            Map<String, Integer> room = Map.of("thing", 5, "harm", 6, "deed", 8, "plan", 4, "slip", 7, "person", 4, "asks", 7);
            must(told < room.getOrDefault(sort, 1), 5);
            must(sort.equals("museum") || lines.containsKey("museum"), 6);
            must(!(sort.equals("thing") && lines.containsKey("ends")), 6);
            at++;
            if (sort.equals("museum")) {
                word("weeks");
                world.weeks = whole(1, 3);
                word("breaks");
                world.breaks = whole(0, 99);
                word("fine");
                world.fine = whole(0, 9);
                word("grown");
                world.grown = whole(0, 99);
            } else if (sort.equals("thing")) {
                tell(sort, told);
                world.things.add(whole(0, 9));
            } else if (sort.equals("harm")) {
                world.harms.add(need());
                word("costs");
                world.costs.add(whole(1, 99));
            } else if (sort.equals("deed")) {
                tell(sort, told);
                deed();
            } else if (sort.equals("plan")) {
                tell(sort, told);
                plan();
            } else if (sort.equals("slip")) {
                tell(sort, told);
                slip();
            } else if (sort.equals("person")) {
                tell(sort, told);
                String kind = oneOf("grown", "child", "donor");
                world.people.add(new Person(kind, use("plan")));
            } else if (sort.equals("asks")) {
                int person = use("person");
                int slip = peek("slip");
                for (Ask ask : world.asks) {
                    must(ask.person != person || ask.slip != slip, 3);
                }
                at++;
                word("pays");
                world.asks.add(new Ask(person, slip, whole(0, 99)));
            } else {
                world.endPlan = use("plan");
                world.endLevels = new int[world.things.size()];
                for (int i = 0; i < world.endLevels.length; i++) {
                    if (i > 0) {
                        word(",");
                    }
                    world.endLevels[i] = whole(0, 9);
                }
            }
            lines.put(sort, told + 1);
        }

        Need need() {
            int thing = use("thing");
            boolean over = oneOf("over", "under").equals("over");
            return new Need(thing, over, whole(0, 9));
        }

        void deed() {
            List<int[]> effects = new ArrayList<>();
            do {
                must(is("adds") || is("takes"), 1);
                must(effects.size() < 2, 5);
                boolean adds = oneOf("adds", "takes").equals("adds");
                int thing = peek("thing");
                must(effects.isEmpty() || effects.get(0)[0] != thing, 3);
                at++;
                int much = whole(1, 9);
                effects.add(new int[] {thing, adds ? much : -much});
            } while (comma());
            Need need = null;
            if (is("if")) {
                at++;
                need = need();
            }
            world.deeds.add(new Deed(effects.toArray(new int[0][]), need));
        }

        boolean comma() {
            if (now().kind == ',') {
                at++;
                return true;
            }
            return false;
        }

        void plan() {
            List<Step> steps = new ArrayList<>();
            do {
                int deed = peek("deed");
                must(steps.size() < 6, 5);
                at++;
                steps.add(new Step(deed, false));
            } while (comma());
            world.plans.add(steps);
        }

        void slip() {
            String kind = oneOf("left", "twice", "turned", "early", "for");
            int deed = use("deed");
            int second = -2;
            if (kind.equals("for")) {
                second = peek("deed");
                must(second != deed, 3);
                at++;
            }
            word("often");
            world.slips.add(new Mistake(kind, deed, second, whole(1, 9)));
        }
    }

    // ---- the state

    private final StringBuilder tape = new StringBuilder();
    private World world = null;
    private State state = null;
    private final ArrayDeque<State> past = new ArrayDeque<>();
    private final List<State> images = new ArrayList<>();
    private int trouble = 0;
    private int fault = 0;
    private int place = -1;

    int feed(int a, int b, int c, int d, int e) {
        if (tape.length() + 20 > 1000) {
            return -1;
        }
        for (int four : new int[] {a, b, c, d, e}) {
            for (int i = 3; i >= 0; i--) {
                tape.append((char) (four >>> 8 * i & 255));
            }
        }
        return tape.length();
    }

    int museum(int n) {
        if (n < 0 || n > tape.length()) {
            return no(2);
        }
        String text = tape.substring(0, n);
        tape.setLength(0);
        try {
            World next = new Parser(text).read();
            world = next;
            fault = 0;
            Map<Integer, Integer> nobody = new HashMap<>();
            state = new State(nobody, nobody, List.of(), 0, 0);
            past.clear();
            images.clear();
            return yes(world.slips.size());
        } catch (Fault f) {
            fault = f.number;
            place = f.place;
            return no(4);
        }
    }

    int fault() {
        return fault;
    }

    int where() {
        return trouble == 4 ? place : -1;
    }

    int trouble() {
        return trouble;
    }

    private int no(int why) {
        trouble = why;
        return -1;
    }

    private int yes(int answer) {
        trouble = 0;
        return answer;
    }

    private int things() {
        return world == null ? 0 : world.things.size();
    }

    private int plans() {
        return world == null ? 0 : world.plans.size();
    }

    private int slips() {
        return world == null ? 0 : world.slips.size();
    }

    private int people() {
        return world == null ? 0 : world.people.size();
    }

    private int asks() {
        return world == null ? 0 : world.asks.size();
    }

    private static boolean in(int i, int size) {
        return 0 <= i && i < size;
    }

    private boolean choice(int slip) {
        return slip == -2 || in(slip, slips());
    }

    int slip(int k, int what) {
        if (!in(k, slips()) || !in(what, 5)) {
            return no(1);
        }
        Mistake m = world.slips.get(k);
        int kind = List.of("left", "twice", "turned", "early", "for").indexOf(m.kind);
        return yes(new int[] {kind, m.deed, m.second, m.often, state.cleaned.contains(k) ? 1 : 0}[what]);
    }

    int step(int plan, int i) {
        if (!in(plan, plans()) || !in(i, world.plans.get(plan).size())) {
            return no(1);
        }
        return yes(world.plans.get(plan).get(i).deed);
    }

    int person(int p, int what) {
        if (!in(p, people()) || !in(what, 2)) {
            return no(1);
        }
        Person one = world.people.get(p);
        return yes(what == 1 ? one.plan : List.of("grown", "child", "donor").indexOf(one.kind));
    }

    // ---- runs

    /** The step at which it is made, -1 if it doesn't fit. */
    private int site(List<Step> steps, int slip) {
        if (state.cleaned.contains(slip)) {
            return -1;
        }
        Mistake m = world.slips.get(slip);
        for (int i = 0; i < steps.size(); i++) {
            if (steps.get(i).deed == m.deed && !(m.kind.equals("early") && i == 0)) {
                return i;
            }
        }
        return -1;
    }

    private boolean fit(List<Step> steps, int slip) {
        return site(steps, slip) >= 0;
    }

    private List<Step> with(List<Step> steps, int slip) {
        List<Step> made = new ArrayList<>(steps);
        int i = slip == -2 ? -1 : site(steps, slip);
        if (i < 0) {
            return made;
        }
        Step step = made.get(i);
        Mistake m = world.slips.get(slip);
        if (m.kind.equals("left")) {
            made.remove(i);
        } else if (m.kind.equals("twice")) {
            made.add(i + 1, step);
        } else if (m.kind.equals("turned")) {
            made.set(i, new Step(step.deed, !step.turned));
        } else if (m.kind.equals("early")) {
            made.remove(i);
            made.add(i - 1, step);
        } else {
            made.set(i, new Step(m.second, false));
        }
        return made;
    }

    private Ran run(List<Step> steps) {
        int[] levels = world.things.stream().mapToInt(t -> t).toArray();
        for (int i = 0; i < steps.size(); i++) {
            Deed deed = world.deeds.get(steps.get(i).deed);
            if (deed.need != null && !deed.need.so(levels)) {
                return new Ran(levels, i);
            }
            for (int[] effect : deed.effects) {
                int next = levels[effect[0]] + (steps.get(i).turned ? -1 : 1) * effect[1];
                levels[effect[0]] = next < 0 ? 0 : next > 9 ? 9 : next;
            }
        }
        return new Ran(levels, -2);
    }

    private int harmOf(List<Step> steps) {
        Ran ran = run(steps);
        int sum = ran.broke >= 0 ? world.breaks : 0;
        for (int i = 0; i < world.harms.size(); i++) {
            sum += world.harms.get(i).so(ran.levels) ? world.costs.get(i) : 0;
        }
        return sum;
    }

    private List<Step> plan(int plan) {
        return world.plans.get(plan);
    }

    private int harmWith(int plan, int slip) {
        return harmOf(with(plan(plan), slip));
    }

    private String endWith(int plan, int slip) {
        return Arrays.toString(run(with(plan(plan), slip)).levels);
    }

    private List<Integer> fitting(List<Step> steps) {
        List<Integer> all = new ArrayList<>();
        for (int k = 0; k < slips(); k++) {
            if (fit(steps, k)) {
                all.add(k);
            }
        }
        return all;
    }

    int end(int plan, int slip, int other, int thing) {
        if (!in(plan, plans()) || !choice(slip) || !choice(other) || !in(thing, things())) {
            return no(1);
        }
        return yes(run(with(with(plan(plan), slip), other)).levels[thing]);
    }

    private int levelAt(int plan, int slip, int steps, int thing) {
        List<Step> all = with(plan(plan), slip);
        return run(all.subList(0, Math.min(steps, all.size()))).levels[thing];
    }

    int level(int plan, int slip, int steps, int thing) {
        if (!in(plan, plans()) || !choice(slip) || !in(thing, things())) {
            return no(1);
        }
        if (!in(steps, plan(plan).size() + 1)) {
            return no(2);
        }
        return yes(levelAt(plan, slip, steps, thing));
    }

    int breaks(int plan, int slip, int other) {
        if (!in(plan, plans()) || !choice(slip) || !choice(other)) {
            return no(1);
        }
        return yes(run(with(with(plan(plan), slip), other)).broke);
    }

    int harm(int plan, int slip, int other) {
        if (!in(plan, plans()) || !choice(slip) || !choice(other)) {
            return no(1);
        }
        return yes(harmOf(with(with(plan(plan), slip), other)));
    }

    int fits(int slip) {
        if (!in(slip, slips())) {
            return no(1);
        }
        int bits = 0;
        for (int p = 0; p < plans(); p++) {
            bits += fit(plan(p), slip) ? 1 << p : 0;
        }
        return yes(bits);
    }

    int harmless(int plan) {
        if (!in(plan, plans())) {
            return no(1);
        }
        return yes(fitting(plan(plan)).stream().filter(k -> harmWith(plan, k) <= harmWith(plan, -2)).mapToInt(k -> 1 << k).sum());
    }

    int good(int plan) {
        if (!in(plan, plans())) {
            return no(1);
        }
        return yes(fitting(plan(plan)).stream().filter(k -> harmWith(plan, k) < harmWith(plan, -2)).mapToInt(k -> 1 << k).sum());
    }

    int extreme(int plan, boolean worst) {
        if (!in(plan, plans())) {
            return no(1);
        }
        List<Integer> all = new ArrayList<>(fitting(plan(plan)));
        all.sort((a, b) -> worst ? harmWith(plan, b) - harmWith(plan, a) : harmWith(plan, a) - harmWith(plan, b));
        return yes(all.isEmpty() ? -2 : all.get(0));
    }

    private List<Integer> cancelling(int plan) {
        List<Integer> all = new ArrayList<>();
        String without = endWith(plan, -2);
        for (int a : fitting(plan(plan))) {
            for (int b : fitting(plan(plan))) {
                String both = Arrays.toString(run(with(with(plan(plan), a), b)).levels);
                if (a < b && !endWith(plan, a).equals(without) && !endWith(plan, b).equals(without) && both.equals(without)) {
                    all.add(10 * a + b);
                }
            }
        }
        return all;
    }

    int cancels(int plan) {
        return in(plan, plans()) ? yes(cancelling(plan).size()) : no(1);
    }

    int cancel(int plan, int i) {
        if (!in(plan, plans()) || !in(i, cancelling(plan).size())) {
            return no(1);
        }
        return yes(cancelling(plan).get(i));
    }

    int worstTwo(int plan) {
        if (!in(plan, plans())) {
            return no(1);
        }
        List<Integer> harms = new ArrayList<>();
        for (int a : fitting(plan(plan))) {
            for (int b : fitting(plan(plan))) {
                harms.add(harmOf(with(with(plan(plan), a), b)));
            }
        }
        return yes(harms.stream().mapToInt(h -> h).max().orElse(harmWith(plan, -2)));
    }

    // ---- which it was

    private List<Integer> possible() {
        List<Integer> all = new ArrayList<>();
        all.add(-2);
        all.addAll(fitting(plan(world.endPlan)));
        all.removeIf(k -> !endWith(world.endPlan, k).equals(Arrays.toString(world.endLevels)));
        return all;
    }

    private boolean seen() {
        if (world == null) {
            no(1);
            return false;
        }
        if (world.endPlan < 0) {
            no(6);
            return false;
        }
        return true;
    }

    int which() {
        return seen() ? yes(possible().stream().filter(k -> k >= 0).mapToInt(k -> 1 << k).sum()) : -1;
    }

    int whichNone() {
        return seen() ? yes(possible().contains(-2) ? 1 : 0) : -1;
    }

    int likeliest() {
        if (!seen()) {
            return -1;
        }
        List<Integer> all = possible();
        all.sort((a, b) -> often(b) - often(a));
        return yes(all.isEmpty() ? -3 : all.get(0));
    }

    private int often(int k) {
        return k < 0 ? 5 : world.slips.get(k).often;
    }

    private int[] looking(int plan) {
        List<Integer> all = new ArrayList<>(fitting(plan(plan)));
        all.add(-2);
        int[] best = {-1, 99};
        for (int steps = 0; steps <= plan(plan).size(); steps++) {
            for (int thing = 0; thing < things(); thing++) {
                int left = 0;
                for (int a : all) {
                    int same = 0;
                    for (int b : all) {
                        same += levelAt(plan, a, steps, thing) == levelAt(plan, b, steps, thing) ? 1 : 0;
                    }
                    left = Math.max(left, same);
                }
                if (left < best[1]) {
                    best = new int[] {10 * steps + thing, left};
                }
            }
        }
        return best;
    }

    int look(int plan) {
        return in(plan, plans()) ? yes(looking(plan)[0]) : no(1);
    }

    int lookMost(int plan) {
        return in(plan, plans()) ? yes(looking(plan)[1]) : no(1);
    }

    // ---- plans that bear

    private boolean bearing(List<Step> steps) {
        return fitting(steps).stream().allMatch(k -> harmOf(with(steps, k)) <= harmOf(steps));
    }

    int bears(int plan) {
        return in(plan, plans()) ? yes(bearing(plan(plan)) ? 1 : 0) : no(1);
    }

    /** What is put in, so many; null if it can't be. */
    private List<Integer> putIn(List<Step> steps, int many, int allowed) {
        if (many == 0) {
            return harmOf(steps) <= allowed && bearing(steps) ? new ArrayList<>() : null;
        }
        for (int at = 0; at <= steps.size(); at++) {
            for (int deed = 0; deed < world.deeds.size(); deed++) {
                List<Step> more = new ArrayList<>(steps);
                more.add(at, new Step(deed, false));
                List<Integer> rest = putIn(more, many - 1, allowed);
                if (rest != null) {
                    rest.add(0, 10 * at + deed);
                    return rest;
                }
            }
        }
        return null;
    }

    private List<Integer> making(int plan) {
        for (int many = 0; many <= 2; many++) {
            List<Integer> all = putIn(plan(plan), many, harmWith(plan, -2));
            if (all != null) {
                return all;
            }
        }
        return null;
    }

    int made(int plan) {
        if (!in(plan, plans())) {
            return no(1);
        }
        List<Integer> all = making(plan);
        return yes(all == null ? -2 : all.size());
    }

    int madeAt(int plan, int i) {
        if (!in(plan, plans())) {
            return no(1);
        }
        List<Integer> all = making(plan);
        return all == null || !in(i, all.size()) ? no(1) : yes(all.get(i));
    }

    // ---- told apart

    private boolean unlike(int a, int b, int plans) {
        for (int p = 0; p < plans(); p++) {
            if ((plans & 1 << p) != 0 && !endWith(p, a).equals(endWith(p, b))) {
                return true;
            }
        }
        return false;
    }

    private boolean tellsApart(int plans) {
        for (int a = -1; a < slips(); a++) {
            for (int b = a + 1; b < slips(); b++) {
                int one = a < 0 ? -2 : a;
                if (unlike(one, b, 15) && !unlike(one, b, plans)) {
                    return false;
                }
            }
        }
        return true;
    }

    int apart() {
        if (world == null) {
            return no(1);
        }
        for (int many = 0; many <= 4; many++) {
            for (int plans = 0; plans < 1 << plans(); plans++) {
                if (Integer.bitCount(plans) == many && tellsApart(plans)) {
                    return yes(plans);
                }
            }
        }
        throw new IllegalStateException("all plans tell apart what they tell apart");
    }

    int copies() {
        if (world == null) {
            return no(1);
        }
        int bits = 0;
        for (int a = 0; a < slips(); a++) {
            for (int b = a + 1; b < slips(); b++) {
                if (!unlike(a, b, 15)) {
                    bits |= 1 << b;
                }
            }
        }
        return yes(bits);
    }

    // ---- lending

    private boolean may(int person, int slip) {
        Person p = world.people.get(person);
        return !state.cleaned.contains(slip) && !(p.kind.equals("child") && harmWith(p.plan, slip) > world.grown);
    }

    private int worthOf(int ask) {
        Ask a = world.asks.get(ask);
        Person p = world.people.get(a.person);
        if (!may(a.person, a.slip)) {
            return -2;
        }
        return (p.kind.equals("donor") ? 0 : a.pays) + world.fine * harmWith(p.plan, a.slip);
    }

    int worth(int ask) {
        return in(ask, asks()) ? yes(worthOf(ask)) : no(1);
    }

    /** The weeks of each ask, then all worth; every way is tried in the order that the document gives. */
    private int[] bestLending() {
        int n = asks();
        int options = world.weeks + 1;
        int ways = 1;
        int[] worths = new int[n];
        for (int i = 0; i < n; i++) {
            ways *= options;
            worths[i] = worthOf(i);
        }
        int[] best = null;
        for (int way = 0; way < ways; way++) {
            int[] weeks = new int[n + 1];
            int rest = way;
            for (int i = n - 1; i >= 0; i--) {
                weeks[i] = rest % options;
                rest /= options;
            }
            boolean right = true;
            for (int i = 0; i < n && right; i++) {
                if (weeks[i] == world.weeks) {
                    continue;
                }
                right = worths[i] != -2;
                weeks[n] += worths[i];
                for (int j = 0; j < i; j++) {
                    Ask a = world.asks.get(i);
                    Ask b = world.asks.get(j);
                    right &= weeks[i] != weeks[j] || a.person != b.person && a.slip != b.slip;
                }
            }
            if (right && (best == null || weeks[n] > best[n])) {
                best = weeks;
            }
        }
        return best;
    }

    int lending() {
        return world == null ? no(1) : yes(bestLending()[asks()]);
    }

    int weekOf(int ask) {
        if (!in(ask, asks())) {
            return no(1);
        }
        int week = bestLending()[ask];
        return yes(week == world.weeks ? -2 : week);
    }

    // ---- a game, decades

    private List<Integer> resting(int p, int q) {
        int mine = world.people.get(p).plan;
        int his = world.people.get(q).plan;
        List<Integer> all = new ArrayList<>();
        for (int a = 0; a <= slips(); a++) {
            for (int b = 0; b <= slips(); b++) {
                int now = gain(mine, his, a, b);
                boolean rests = true;
                for (int c = 0; c <= slips(); c++) {
                    rests &= gain(mine, his, c, b) <= now && -gain(mine, his, a, c) <= -now;
                }
                if (rests) {
                    all.add(10 * a + b);
                }
            }
        }
        return all;
    }

    /** What the one wins by choices, 0 being none; the other one wins as much less. */
    private int gain(int mine, int his, int a, int b) {
        return harmWith(his, a == 0 ? -2 : a - 1) - harmWith(mine, b == 0 ? -2 : b - 1);
    }

    int rests(int p, int q) {
        return !in(p, people()) || !in(q, people()) || p == q ? no(1) : yes(resting(p, q).size());
    }

    int rest(int p, int q) {
        if (!in(p, people()) || !in(q, people()) || p == q) {
            return no(1);
        }
        List<Integer> all = resting(p, q);
        return yes(all.isEmpty() ? -2 : all.get(0));
    }

    int decade(int seed, int n) {
        if (world == null) {
            return no(1);
        }
        if (people() == 0 || slips() == 0) {
            return no(6);
        }
        if (!in(seed, 65537) || !in(n, 501)) {
            return no(2);
        }
        long draw = seed;
        int sum = 0;
        for (int i = 0; i < n; i++) {
            draw = (75 * draw + 74) % 65537;
            int p = (int) (draw % people());
            draw = (75 * draw + 74) % 65537;
            int k = (int) (draw % slips());
            sum += harmWith(world.people.get(p).plan, k);
        }
        return yes(sum);
    }

    // ---- the desk

    int who(int slip) {
        return in(slip, slips()) ? yes(state.holder.getOrDefault(slip, -2)) : no(1);
    }

    int overdue() {
        if (world == null) {
            return no(1);
        }
        int bits = 0;
        for (int k : state.holder.keySet()) {
            bits += state.week - state.since.get(k) > world.weeks ? 1 << k : 0;
        }
        return yes(bits);
    }

    private void act(State next) {
        past.addLast(state);
        while (past.size() > 12) {
            past.removeFirst();
        }
        state = next;
    }

    boolean lend(int slip, int p) {
        if (!in(slip, slips()) || !in(p, people())) {
            return no(1) == 0;
        }
        if (state.holder.containsKey(slip) || state.holder.containsValue(p) || !may(p, slip)) {
            return no(5) == 0;
        }
        Map<Integer, Integer> holder = new HashMap<>(state.holder);
        Map<Integer, Integer> since = new HashMap<>(state.since);
        holder.put(slip, p);
        since.put(slip, state.week);
        act(new State(holder, since, state.cleaned, state.week, state.done));
        return yes(1) == 1;
    }

    int bring(int slip, boolean made) {
        if (!in(slip, slips())) {
            return no(1);
        }
        if (!state.holder.containsKey(slip)) {
            return no(5);
        }
        int harm = made ? harmWith(world.people.get(state.holder.get(slip)).plan, slip) : 0;
        Map<Integer, Integer> holder = new HashMap<>(state.holder);
        holder.remove(slip);
        act(new State(holder, state.since, state.cleaned, state.week, state.done + harm));
        return yes(harm);
    }

    boolean clean(int slip) {
        if (!in(slip, slips())) {
            return no(1) == 0;
        }
        if (state.cleaned.contains(slip) || state.holder.containsKey(slip)) {
            return no(5) == 0;
        }
        List<Integer> cleaned = new ArrayList<>(state.cleaned);
        cleaned.add(slip);
        act(new State(state.holder, state.since, cleaned, state.week, state.done));
        return yes(1) == 1;
    }

    int week() {
        if (world == null) {
            return no(1);
        }
        act(new State(state.holder, state.since, state.cleaned, state.week + 1, state.done));
        return yes(state.week);
    }

    boolean undo() {
        if (past.isEmpty()) {
            return no(6) == 0;
        }
        state = past.removeLast();
        return yes(1) == 1;
    }

    int image() {
        if (world == null) {
            return no(1);
        }
        if (images.size() == 3) {
            return no(3);
        }
        images.add(state);
        return yes(images.size() - 1);
    }

    boolean back(int image) {
        if (!in(image, images.size())) {
            return no(1) == 0;
        }
        state = images.get(image);
        past.clear();
        return yes(1) == 1;
    }

    int led(int i) {
        List<Integer> out = new ArrayList<>();
        for (int k = 0; k < slips(); k++) {
            if (state.holder.containsKey(k)) {
                out.add(k);
            }
        }
        if (!in(i, out.size())) {
            throw new NoSuchElementException();
        }
        return out.get(i);
    }

    int size(int what) {
        if (!in(what, 16)) {
            return -1;
        }
        if (what == 15) {
            return tape.length();
        }
        if (world == null) {
            return 0;
        }
        return new int[] {world.weeks, world.breaks, world.fine, world.grown, things(), world.deeds.size(), plans(), slips(),
            people(), asks(), world.harms.size(), state.week, state.done, past.size(), images.size()}[what];
    }
}
