import java.lang.reflect.InvocationTargetException;
import java.lang.reflect.Method;
import java.util.ArrayList;
import java.util.List;
import java.util.Random;

/** Random museums, right ones and spoilt ones, and random calls: the class answers as the slow model does. */
public final class FuzzTest {
    private static final Random DICE = new Random(20261118);
    private static final List<Method> CALLS = new ArrayList<>();

    private static int roll(int n) {
        return DICE.nextInt(n);
    }

    private static int between(int least, int most) {
        return least + roll(most - least + 1);
    }

    private static <T> T pick(List<T> all) {
        return all.get(roll(all.size()));
    }

    private static String name(String first, int i) {
        return first + (char) ('a' + i);
    }

    private static String need(int things) {
        return name("t", roll(things)) + (roll(2) == 0 ? " over " : " under ") + roll(10);
    }

    static String museum() {
        List<String> lines = new ArrayList<>();
        lines.add("museum weeks " + between(1, 3) + " breaks " + pick(List.of(0, 5, 30, 99)) + " fine " + roll(4) + " grown " + pick(List.of(0, 9, 20, 99)));
        int things = roll(4) == 0 ? 5 : between(1, 4);
        int deeds = roll(4) == 0 ? between(5, 8) : between(1, 4);
        int plans = between(1, 4);
        int slips = roll(3) == 0 ? 7 : between(0, 7);
        int people = between(0, 4);
        for (int i = 0; i < things; i++) {
            lines.add("thing " + name("t", i) + " " + roll(10));
        }
        for (int i = 0; i < deeds; i++) {
            StringBuilder line = new StringBuilder("deed " + name("d", i));
            int first = roll(things);
            line.append(roll(2) == 0 ? " adds " : " takes ").append(name("t", first)).append(" ").append(between(1, roll(2) == 0 ? 3 : 9));
            int second = roll(things);
            if (second != first && roll(2) == 0) {
                line.append(roll(2) == 0 ? ",adds " : ", takes ").append(name("t", second)).append(" ").append(between(1, 9));
            }
            if (roll(2) == 0) {
                line.append(" if ").append(need(things));
            }
            lines.add(line.toString());
        }
        for (int i = between(0, 6); i > 0; i--) {
            lines.add("harm " + need(things) + " costs " + between(1, 40));
        }
        for (int i = 0; i < plans; i++) {
            StringBuilder line = new StringBuilder("plan " + name("p", i) + " " + name("d", roll(deeds)));
            for (int j = roll(6); j > 0; j--) {
                line.append(",").append(name("d", roll(deeds)));
            }
            lines.add(line.toString());
        }
        for (int i = 0; i < slips; i++) {
            int deed = roll(deeds);
            int other = roll(deeds);
            String mistake = pick(List.of("left", "twice", "turned", "early", "for"));
            if (mistake.equals("for") && other == deed) {
                mistake = "turned";
            }
            lines.add("slip " + name("s", i) + " " + mistake + " " + name("d", deed)
                + (mistake.equals("for") ? " " + name("d", other) : "") + " often " + between(1, 9));
        }
        for (int i = 0; i < people; i++) {
            lines.add("person " + name("h", i) + " " + pick(List.of("grown", "child", "donor")) + " " + name("p", roll(plans)));
        }
        if (people > 0 && slips > 0) {
            List<Integer> asked = new ArrayList<>();
            for (int i = roll(3) == 0 ? 60 : roll(8); i > 0 && asked.size() < 7; i--) {
                int ask = 10 * roll(people) + roll(slips);
                if (!asked.contains(ask)) {
                    asked.add(ask);
                    lines.add("asks " + name("h", ask / 10) + " " + name("s", ask % 10) + " pays " + pick(List.of(0, 1, 7, 50, 99)));
                }
            }
        }
        if (roll(4) != 0) {
            lines.add(ends(String.join(";", lines), plans, things, slips));
        }
        return String.join(";", lines);
    }

    /** Most often an end that a plan has with a slip of that museum. */
    private static String ends(String before, int plans, int things, int slips) {
        MistakesLent x = new MistakesLent();
        boolean real = before.length() <= 1000 && roll(5) != 0 && Check.load(x, before) >= 0;
        int plan = roll(plans);
        int slip = slips == 0 || roll(4) == 0 ? -2 : roll(slips);
        StringBuilder line = new StringBuilder("ends " + name("p", plan) + " ");
        for (int i = 0; i < things; i++) {
            line.append(i == 0 ? "" : ",").append(real ? x.end(plan, slip, -2, i) : roll(10));
        }
        return line.toString();
    }

    private static final List<String> BITS = List.of("museum", "thing", "harm", "deed", "plan", "slip", "person", "asks", "ends", "if",
        "weeks", "costs", "often", "pays", "adds", "takes", "over", "under", "left", "for", "early", "grown", "child", "ta", "da", "pa", "sa",
        "ha", "tb", "db", "x", "toolongword", "0", "9", "10", "99", "100", ";", ",", "A", "-", "\u00e9", "\n");

    /** A text with a few words put in, left out or changed, so that it most often has a fault. */
    static String spoilt(String text) {
        List<String> words = new ArrayList<>();
        for (String word : text.replace(";", " ; ").replace(",", " , ").trim().split(" +")) {
            words.add(word);
        }
        for (int i = between(1, 2); i > 0 && words.size() > 1; i--) {
            int at = roll(words.size());
            switch (roll(8)) {
                case 0:
                    words.remove(at);
                    break;
                case 1:
                    words.add(at, pick(BITS));
                    break;
                case 2:
                    words.set(at, words.get(roll(words.size())));
                    break;
                case 3:
                    words = new ArrayList<>(words.subList(0, at + 1));
                    break;
                case 4:
                    addLineAgain(words);
                    break;
                case 5:
                case 6:
                    for (int j = at; j < words.size(); j++) {
                        if (words.get(j).matches("[0-9]+")) {
                            words.set(j, String.valueOf(roll(5) == 0 ? between(10, 99) : roll(12)));
                            break;
                        }
                    }
                    break;
                default:
                    words.set(at, pick(BITS));
                    break;
            }
        }
        String joined = String.join(" ", words);
        return roll(2) == 0 ? joined : joined.replace(" ; ", ";").replace(" , ", ",");
    }

    private static final String SIGNS = "abmz 0189;,  A~`{/:+-\t\u0000\u007f\u0080\u00a0\u00ff";

    /** A text with a few bytes put in, left out or changed, so that tokens run together or come apart. */
    static String smudged(String text) {
        StringBuilder bytes = new StringBuilder(text);
        for (int i = between(1, 3); i > 0 && bytes.length() > 1; i--) {
            int at = roll(bytes.length());
            char sign = SIGNS.charAt(roll(SIGNS.length()));
            switch (roll(5)) {
                case 0:
                    bytes.deleteCharAt(at);
                    break;
                case 1:
                    bytes.setCharAt(at, sign);
                    break;
                case 2:
                    bytes.insert(at, "  ".substring(roll(2)));
                    break;
                case 3:
                    bytes.setLength(at);
                    break;
                default:
                    bytes.insert(at, sign);
                    break;
            }
        }
        return bytes.toString();
    }

    private static void addLineAgain(List<String> words) {
        String[] lines = String.join(" ", words).split(";");
        String line = lines[roll(lines.length)].trim();
        words.add(";");
        for (String word : line.split(" ")) {
            words.add(word.length() == 2 && roll(2) == 0 ? word + "z" : word);
        }
    }

    private static int argument(Class<?> type) {
        if (type == boolean.class) {
            return roll(2);
        }
        int kind = roll(40);
        if (kind == 0) {
            return pick(List.of(Integer.MIN_VALUE, Integer.MAX_VALUE, -1, -3, 31, 32, 64, 500, 501, 65536, 65537));
        }
        return kind < 6 ? -2 : kind < 30 ? roll(4) : roll(9);
    }

    private static long answer(Object on, String name, Class<?>[] types, Object[] arguments) throws Exception {
        try {
            Method method = on.getClass().getDeclaredMethod(name, types);
            method.setAccessible(true);
            Object value = method.invoke(on, arguments);
            return value instanceof Boolean b ? (b ? 1 : 0) : ((Integer) value).longValue();
        } catch (InvocationTargetException e) {
            if (e.getCause() instanceof java.util.NoSuchElementException) {
                return Long.MIN_VALUE;
            }
            throw new IllegalStateException(name + " threw", e.getCause());
        }
    }

    private static void both(MistakesLent x, Oracle o, Method call, Object... arguments) throws Exception {
        long got = answer(x, call.getName(), call.getParameterTypes(), arguments);
        long want = answer(o, call.getName(), call.getParameterTypes(), arguments);
        Check.due(call.getName() + java.util.Arrays.toString(arguments), got, want);
        Check.due("trouble behind " + call.getName(), x.trouble(), o.trouble());
    }

    private static boolean feed(MistakesLent x, Oracle o, String text) {
        String behind = pick(List.of("", "7", "77777777777777777777", "aaaaaaaaaaaaaaaaaaaa", ";;;;;;;;;;;;;;;;;;;;"));
        int[] all = Check.numbers(text + behind);
        for (int i = 0; i < all.length; i += 5) {
            int got = x.feed(all[i], all[i + 1], all[i + 2], all[i + 3], all[i + 4]);
            int want = o.feed(all[i], all[i + 1], all[i + 2], all[i + 3], all[i + 4]);
            Check.due("feed", got, want);
        }
        int n = Math.min(text.length(), o.size(15));
        Check.due("museum of " + text, x.museum(n), o.museum(n));
        Check.due("fault of " + text, x.fault(), o.fault());
        Check.due("where of " + text, x.where(), o.where());
        return o.trouble() == 0;
    }

    /** Every call that only asks, with all arguments that mean something. */
    private static void askAll(MistakesLent x, Oracle o) throws Exception {
        for (Method call : CALLS) {
            Class<?>[] types = call.getParameterTypes();
            if (List.of("feed", "museum", "lend", "bring", "clean", "week", "undo", "image", "back", "decade").contains(call.getName())) {
                continue;
            }
            int ways = 1;
            for (Class<?> type : types) {
                ways *= type == boolean.class ? 2 : 10;
            }
            for (int way = 0; way < ways; way++) {
                if (ways > 1000 && roll(20) != 0 || call.getName().equals("madeAt") && way % 10 > 4) {
                    continue;
                }
                Object[] arguments = new Object[types.length];
                int rest = way;
                for (int i = types.length - 1; i >= 0; i--) {
                    int size = types[i] == boolean.class ? 2 : 10;
                    arguments[i] = types[i] == boolean.class ? (Object) (rest % size == 1) : (Object) (rest % size - 2);
                    rest /= size;
                }
                both(x, o, call, arguments);
            }
        }
    }

    private static void play(MistakesLent x, Oracle o, int calls) throws Exception {
        for (int i = 0; i < calls; i++) {
            Method call = roll(3) == 0 ? pick(CALLS) : desk();
            if (call.getName().equals("museum") || call.getName().equals("feed")) {
                continue;
            }
            Class<?>[] types = call.getParameterTypes();
            Object[] arguments = new Object[types.length];
            for (int j = 0; j < types.length; j++) {
                int value = argument(types[j]);
                arguments[j] = types[j] == boolean.class ? (Object) (value == 1) : (Object) value;
            }
            both(x, o, call, arguments);
        }
    }

    private static Method desk() {
        while (true) {
            Method call = pick(CALLS);
            if (List.of("lend", "bring", "clean", "week", "undo", "image", "back", "who", "led", "overdue", "size").contains(call.getName())) {
                return call;
            }
        }
    }

    public static void main(String[] args) throws Exception {
        int rounds = args.length > 0 ? Integer.parseInt(args[0]) : 60;
        for (Method method : MistakesLent.class.getDeclaredMethods()) {
            if (java.lang.reflect.Modifier.isPublic(method.getModifiers())) {
                CALLS.add(method);
            }
        }
        CALLS.sort((a, b) -> a.getName().compareTo(b.getName()));
        for (int i = 0; i < rounds; i++) {
            MistakesLent x = new MistakesLent();
            Oracle o = new Oracle();
            play(x, o, 20);
            for (int j = 0; j < 20; j++) {
                feed(x, o, spoilt(museum()));
                feed(x, o, smudged(museum()));
            }
            for (int j = 0; j < 3; j++) {
                if (feed(x, o, museum())) {
                    askAll(x, o);
                    play(x, o, 100);
                    askAll(x, o);
                }
            }
            feed(x, o, spoilt(museum()));
            play(x, o, 40);
        }
        Check.finish();
    }
}
