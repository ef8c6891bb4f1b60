import java.io.PrintWriter;
import java.io.StringWriter;
import java.lang.reflect.Constructor;
import java.lang.reflect.Field;
import java.lang.reflect.Method;
import java.lang.reflect.Modifier;
import java.nio.charset.StandardCharsets;
import java.nio.file.Files;
import java.nio.file.Path;
import java.util.ArrayList;
import java.util.Arrays;
import java.util.List;
import java.util.Map;
import java.util.TreeMap;
import java.util.TreeSet;
import java.util.regex.Matcher;
import java.util.regex.Pattern;
import java.util.spi.ToolProvider;

/** The face, what of LANGUAGE.md can be seen from outside, and how much a run makes. */
public final class LanguageTest {
    private static final String FACE = "feed(int,int,int,int,int)int museum(int)int fault()int where()int slip(int,int)int step(int,int)int "
        + "person(int,int)int end(int,int,int,int)int level(int,int,int,int)int breaks(int,int,int)int harm(int,int,int)int fits(int)int "
        + "harmless(int)int good(int)int extreme(int,boolean)int cancels(int)int cancel(int,int)int worstTwo(int)int which()int "
        + "whichNone()int likeliest()int look(int)int lookMost(int)int bears(int)int made(int)int madeAt(int,int)int apart()int copies()int "
        + "worth(int)int lending()int weekOf(int)int rests(int,int)int rest(int,int)int decade(int,int)int who(int)int overdue()int "
        + "lend(int,int)boolean bring(int,boolean)int clean(int)boolean week()int undo()boolean image()int back(int)boolean led(int)int "
        + "size(int)int trouble()int";

    private static void must(String what, boolean right) {
        Check.due(what, right, true);
    }

    private static String signature(Method method) {
        StringBuilder text = new StringBuilder(method.getName() + "(");
        for (Class<?> type : method.getParameterTypes()) {
            text.append(text.charAt(text.length() - 1) == '(' ? "" : ",").append(type.getName());
        }
        return text + ")" + method.getReturnType().getName();
    }

    private static void face() throws Exception {
        Class<?> main = MistakesLent.class;
        must("the class is public and final", Modifier.isPublic(main.getModifiers()) && Modifier.isFinal(main.getModifiers()));
        TreeSet<String> seen = new TreeSet<>();
        TreeSet<String> names = new TreeSet<>();
        for (Method method : main.getDeclaredMethods()) {
            if (!Modifier.isPrivate(method.getModifiers())) {
                must(method + " is public and of the object", (method.getModifiers() & (Modifier.PUBLIC | Modifier.STATIC)) == Modifier.PUBLIC);
                seen.add(signature(method));
                names.add(method.getName());
            }
        }
        must("the face is the document's: " + seen, seen.equals(new TreeSet<>(Arrays.asList(FACE.split(" ")))));
        Constructor<?>[] made = main.getDeclaredConstructors();
        must("one public constructor", made.length == 1 && Modifier.isPublic(made[0].getModifiers()) && made[0].getParameterCount() == 0);
        must("led tells what it throws", main.getMethod("led", int.class).getExceptionTypes()[0] == java.util.NoSuchElementException.class);
        List<Class<?>> all = new ArrayList<>(Arrays.asList(main.getDeclaredClasses()));
        must("some twelve classes: " + all.size(), all.size() <= 12);
        for (Class<?> inner : all) {
            must(inner + " is private and static", Modifier.isPrivate(inner.getModifiers()) && Modifier.isStatic(inner.getModifiers()));
            must(inner + " holds no class", inner.getDeclaredClasses().length == 0);
        }
        all.add(main);
        for (Class<?> each : all) {
            parts(each, names, each == main);
        }
    }

    private static void parts(Class<?> each, TreeSet<String> names, boolean main) {
        int fields = 0;
        for (Field field : each.getDeclaredFields()) {
            boolean still = Modifier.isStatic(field.getModifiers());
            fields += still ? 0 : 1;
            must(field + " is final", !still || Modifier.isFinal(field.getModifiers()));
            must(field + " is of the face", !main || Modifier.isPrivate(field.getModifiers()) || field.getName().equals("NONE"));
        }
        must(each + " has some twenty fields: " + fields, fields <= 20);
        for (Method method : each.getDeclaredMethods()) {
            must(method + " takes at most seven", method.getParameterCount() <= 7);
            boolean open = main && Modifier.isPublic(method.getModifiers());
            must(method + " bears no name of the face", open || !names.contains(method.getName()));
        }
    }

    private static void source() throws Exception {
        String text = Files.readString(Path.of("src/main/java/MistakesLent.java"), StandardCharsets.UTF_8);
        must("signs 1 to 127", text.chars().allMatch(c -> c > 0 && c < 128));
        Matcher imports = Pattern.compile("(?m)^import .*$").matcher(text);
        while (imports.find()) {
            must(imports.group(), imports.group().equals("import java.util.NoSuchElementException;"));
        }
        String code = text.replaceAll("(?s)/\\*.*?\\*/", "").replaceAll("//[^\n]*", "");
        for (String word : List.of("->", "::", "\\btry\\b", "\\bcatch\\b", "\\bfinally\\b", "\\bsynchronized\\b", "\\bassert\\b", "Exact\\b",
            "\\bstatic \\{", "\\bSystem\\.(?!arraycopy)", "\\bRandom\\b", "\\bdouble\\b", "\\bfloat\\b", "\"\\s*\\+", "\\+\\s*\"",
            "\\bwhile \\(true\\)", "\\bpackage\\b", "\\brecord\\b", "\\bString\\.", "\\bjava\\.(?!util\\.NoSuchElementException)")) {
            must("no " + word, !Pattern.compile(word).matcher(code).find());
        }
        int throwing = code.split("\\bthrow new\\b", -1).length - 1;
        must("led alone throws", throwing == 1);
        int start = -1;
        String[] lines = text.split("\n");
        for (int i = 0; i < lines.length; i++) {
            if (lines[i].matches("( {4}| {8})(public|private|static|void|int|boolean|long|[A-Z]\\w+).*\\) (throws \\w+ )?\\{")) {
                start = i;
            }
            if (start >= 0 && lines[i].matches("( {4}| {8})\\}") && i > start) {
                must("short: " + lines[start].trim(), i - start <= 60);
                start = -1;
            }
        }
    }

    /** Which methods each method calls, the library's too, as javap tells them. */
    private static Map<String, TreeSet<String>> calls(ToolProvider javap) {
        List<String> given = new ArrayList<>(List.of("-c", "-p", "-cp", System.getProperty("java.class.path"), "MistakesLent"));
        for (Class<?> inner : MistakesLent.class.getDeclaredClasses()) {
            given.add(inner.getName());
        }
        StringWriter text = new StringWriter();
        PrintWriter out = new PrintWriter(text);
        must("javap", javap.run(out, out, given.toArray(new String[0])) == 0);
        Map<String, TreeSet<String>> all = new TreeMap<>();
        String owner = "";
        String method = "";
        for (String line : text.toString().split("\\R")) {
            Matcher head = Pattern.compile("^(?:\\w+ )*class (\\S+).*\\{$").matcher(line);
            Matcher name = Pattern.compile("^  \\S.*?([\\w$]+)\\(.*\\).*;$").matcher(line);
            Matcher call = Pattern.compile("invoke\\w+.*// (?:Interface)?Method (?:(\\S+)\\.)?\"?([\\w<>]+)\"?:").matcher(line);
            if (head.find()) {
                owner = head.group(1);
            } else if (name.find()) {
                method = owner + "." + (name.group(1).equals(owner) ? "<init>" : name.group(1));
                all.putIfAbsent(method, new TreeSet<>());
            } else if (call.find()) {
                all.get(method).add((call.group(1) == null ? owner : call.group(1)) + "." + call.group(2));
            }
        }
        return all;
    }

    /** How many calls stand open below this one and with it; what calls itself in a circle is told as a fault, but for choose. */
    private static int depth(Map<String, TreeSet<String>> calls, String method, List<String> open) {
        if (open.contains(method)) {
            must("calls itself: " + method, method.equals("MistakesLent$Lending.choose"));
            return 0;
        }
        open.add(method);
        int deepest = 0;
        for (String next : calls.getOrDefault(method, new TreeSet<>())) {
            deepest = Math.max(deepest, depth(calls, next, open));
        }
        open.remove(open.size() - 1);
        return deepest + 1;
    }

    private static void deep() {
        ToolProvider javap = ToolProvider.findFirst("javap").orElse(null);
        if (javap == null) {
            System.out.println("javap isn't here: how deep calls go can't be seen");
            return;
        }
        Map<String, TreeSet<String>> calls = calls(javap);
        must("the calls are seen", calls.containsKey("MistakesLent.museum") && calls.get("MistakesLent.museum").contains("MistakesLent$Reader.read"));
        for (String method : calls.keySet()) {
            int deepest = depth(calls, method, new ArrayList<>());
            must(method + " goes at most eight deep: " + deepest, deepest <= 8);
        }
    }

    /** 512 of the dearest calls make nothing that counts: the rows are made with the object. */
    private static void room() {
        com.sun.management.ThreadMXBean bean = (com.sun.management.ThreadMXBean) java.lang.management.ManagementFactory.getThreadMXBean();
        long id = Thread.currentThread().getId();
        String text = ROOMY;
        int[] numbers = Check.numbers(text);
        for (int round = 0; round < 3; round++) {
            long before = bean.getThreadAllocatedBytes(id);
            MistakesLent x = new MistakesLent();
            long made = bean.getThreadAllocatedBytes(id) - before;
            must("a new object is small: " + made, made < 100_000);
            before = bean.getThreadAllocatedBytes(id);
            int calls = 0;
            while (calls < 460) {
                for (int i = 0; i < numbers.length; i += 5) {
                    x.feed(numbers[i], numbers[i + 1], numbers[i + 2], numbers[i + 3], numbers[i + 4]);
                }
                calls += numbers.length / 5 + 10;
                int slips = x.museum(text.length());
                int sum = slips + x.made(0) + x.lending() + x.apart() + x.copies() + x.look(0) + x.worstTwo(0) + x.decade(1, 500) + x.week() + x.image();
                if (slips < 0 || sum < -100) {
                    must("the museum is right, fault " + x.fault() + " at " + x.where(), false);
                    return;
                }
            }
            long used = bean.getThreadAllocatedBytes(id) - before;
            must("calls make no objects: " + used, used < 20_000);
        }
    }

    private static final String ROOMY = "museum weeks 3 breaks 9 fine 1 grown 99;thing a 5;thing b 5;thing c 5;deed d adds a 1;deed e takes b 1;"
        + "deed f adds c 2 if a over 5;harm a over 5 costs 9;harm b under 5 costs 9;plan p d,e,f,d,e,f;slip s left d often 1;"
        + "slip t twice d often 1;slip u turned d often 1;slip v early d often 1;slip w for d e often 1;person g grown p;person h child p;"
        + "asks g s pays 1;asks g t pays 1;asks g u pays 1;asks g v pays 1;asks h s pays 1;asks h t pays 1;asks h u pays 1";

    public static void main(String[] args) throws Exception {
        face();
        source();
        deep();
        room();
        Check.finish();
    }
}
