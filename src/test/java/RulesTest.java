import java.io.IOException;
import java.lang.reflect.Constructor;
import java.lang.reflect.Field;
import java.lang.reflect.Method;
import java.lang.reflect.Modifier;
import java.nio.file.Files;
import java.nio.file.Path;
import java.util.Arrays;
import java.util.HashSet;
import java.util.Set;
import java.util.TreeSet;
import java.util.regex.Matcher;
import java.util.regex.Pattern;

/** The public face, and the rules of LANGUAGE.md that can be seen in the source. */
public final class RulesTest {
    private static final String[] FACE = {
        "int lane(int,int)", "int put(int,int,int)", "long plane(int,int)", "int lay(int,int,long)",
        "int fill(int,int)", "int does(int,int,int,int)", "int route(int,int,int)", "int edge(int)",
        "int push(int,int)", "int other()", "int pop()", "long active()", "int reduce(int,int)",
        "int part(int,int,int)", "int rank(int,int)", "long alike(int)", "long region(int,int)",
        "int regions(int)", "int way(int,int,int)", "int feed(long,int)", "int wipe()", "int text()",
        "int run(int)", "int then(int,int,int)", "int steps(int)", "long changed(int)", "int settles()",
        "int first(int,int,int)", "int again()", "int row(int,int,int)", "int mark(int,int,long)",
        "long at(int,int)", "int load(int,int)", "int store(int,int)", "int judge(int,int)",
        "int image()", "int back()", "int count(int)", "int refused(int)"};
    private static final String[] FORBIDDEN = {"throw", "throws", "try", "catch", "finally", "synchronized",
        "assert", "protected", "package", "native", "volatile", "transient"};

    private static Checks checks;

    public static void main(String[] args) throws IOException {
        checks = new Checks("RulesTest");
        face();
        inside();
        source();
        room();
        checks.end();
    }

    private static String told(Method method) {
        StringBuilder text = new StringBuilder(method.getReturnType() + " " + method.getName() + "(");
        for (Class<?> type : method.getParameterTypes()) {
            text.append(text.charAt(text.length() - 1) == '(' ? "" : ",").append(type);
        }
        return text.append(")").toString();
    }

    private static void face() {
        Class<?> type = LaneSlices.class;
        checks.holds("public and final", Modifier.isPublic(type.getModifiers()) && Modifier.isFinal(type.getModifiers()));
        Set<String> found = new TreeSet<>();
        Set<String> names = new HashSet<>();
        for (Method method : type.getDeclaredMethods()) {
            if (!Modifier.isPrivate(method.getModifiers())) {
                found.add(told(method));
                names.add(method.getName());
                checks.holds("public, not static: " + method, Modifier.isPublic(method.getModifiers())
                    && !Modifier.isStatic(method.getModifiers()));
            }
        }
        checks.holds("the methods are " + found, found.equals(new TreeSet<>(Arrays.asList(FACE))));
        for (Class<?> one : type.getDeclaredClasses()) {
            for (Method method : one.getDeclaredMethods()) {
                checks.holds("another name than " + method, !names.contains(method.getName()));
            }
        }
        for (Method method : type.getDeclaredMethods()) {
            checks.holds("another name than " + method,
                !Modifier.isPrivate(method.getModifiers()) || !names.contains(method.getName()));
        }
        for (Field field : type.getDeclaredFields()) {
            boolean isNone = field.getName().equals("NONE") && field.getType() == int.class
                && Modifier.isPublic(field.getModifiers());
            checks.holds("private: " + field, isNone || Modifier.isPrivate(field.getModifiers()));
        }
        Constructor<?>[] makers = type.getDeclaredConstructors();
        checks.holds("one constructor", makers.length == 1 && makers[0].getParameterCount() == 0
            && Modifier.isPublic(makers[0].getModifiers()));
    }

    private static void inside() {
        Class<?>[] classes = LaneSlices.class.getDeclaredClasses();
        checks.holds("at most twelve classes", classes.length + 1 <= 12);
        Class<?>[] all = Arrays.copyOf(classes, classes.length + 1);
        all[classes.length] = LaneSlices.class;
        for (Class<?> one : all) {
            checks.holds("static: " + one, one == LaneSlices.class || Modifier.isStatic(one.getModifiers()));
            int fields = 0;
            for (Field field : one.getDeclaredFields()) {
                boolean fixed = Modifier.isStatic(field.getModifiers());
                fields += fixed ? 0 : 1;
                checks.holds("final: " + field, !fixed || Modifier.isFinal(field.getModifiers()));
            }
            checks.holds("at most twenty fields: " + one, fields <= 20);
            for (Method method : one.getDeclaredMethods()) {
                checks.holds("at most seven parameters: " + method, method.getParameterCount() <= 7);
            }
        }
    }

    private static void source() throws IOException {
        String all = Files.readString(Path.of("src/main/java/LaneSlices.java"));
        String code = all.replaceAll("(?s)/\\*.*?\\*/", "").replaceAll("//[^\n]*", "");
        for (String word : FORBIDDEN) {
            checks.holds("no " + word, !Pattern.compile("\\b" + word + "\\b").matcher(code).find());
        }
        checks.holds("no lambda, no method reference", !code.contains("->") && !code.contains("::"));
        checks.holds("no text", !code.contains("\""));
        checks.holds("no own equals, hashCode, toString",
            !Pattern.compile("\\b(equals|hashCode|toString)\\b").matcher(code).find());
        checks.holds("no name that ends in Exact", !Pattern.compile("\\w+Exact\\b").matcher(code).find());
        checks.holds("no static block", !Pattern.compile("static\\s*\\{").matcher(code).find());
        Matcher uses = Pattern.compile("import ([^;]*);").matcher(code);
        while (uses.find()) {
            checks.due("only java.util.Arrays: " + uses.group(1), uses.group(1).compareTo("java.util.Arrays"), 0);
        }
        Matcher library = Pattern.compile("\\b(System|Arrays|Long|Math|Integer)\\.(\\w+)").matcher(code);
        Set<String> allowed = new HashSet<>(Arrays.asList("System.arraycopy", "Arrays.copyOf", "Arrays.fill",
            "Long.bitCount", "Long.rotateLeft", "Long.rotateRight", "Long.numberOfTrailingZeros",
            "Math.max", "Math.min"));
        while (library.find()) {
            checks.holds("of the library: " + library.group(), allowed.contains(library.group()));
        }
        methodsAreShort(all.split("\n"));
    }

    private static void methodsAreShort(String[] lines) {
        Pattern head = Pattern.compile("( {4}| {8})(public |private |static |final )*[\\w\\[\\]]+ ?\\w*\\(.*\\) \\{");
        int found = 0;
        for (int i = 0; i < lines.length; i++) {
            Matcher matcher = head.matcher(lines[i]);
            if (matcher.matches()) {
                found++;
                int end = i;
                while (end < lines.length && !lines[end].equals(matcher.group(1) + "}")) {
                    end++;
                }
                checks.holds("at most sixty lines: " + lines[i], end - i < 60);
            }
        }
        checks.holds("methods were found", found > 90);
    }

    /** What the dearest calls leave in the room, by the bytes that this thread was given. */
    private static void room() {
        com.sun.management.ThreadMXBean bean =
            (com.sun.management.ThreadMXBean) java.lang.management.ManagementFactory.getThreadMXBean();
        LaneSlices x = new LaneSlices();
        for (char sign : "{a<9:a=a+1;[a&1:b@na|c=~c*a]}".toCharArray()) {
            x.feed(sign, 1);
        }
        checks.due("the program is read", x.text(), 5);
        long given = 0;
        for (int round = 0; round < 2; round++) {
            // The second round is counted: by then all classes have been loaded.
            long before = bean.getCurrentThreadAllocatedBytes();
            for (int i = 0; i < 100; i++) {
                x.feed(0x233D61L, 3);
                x.run(1);
                x.settles();
                x.again();
                x.first(0, 0, 1);
                x.regions(0);
                x.way(0, 63, 0);
                x.image();
                x.back();
                x.row(0, 3, 64);
                x.wipe();
            }
            given = bean.getCurrentThreadAllocatedBytes() - before;
        }
        checks.holds("calls leave nothing in the room, but " + given + " bytes", given < 1000);
        long before = bean.getCurrentThreadAllocatedBytes();
        LaneSlices another = new LaneSlices();
        another.text();
        given = bean.getCurrentThreadAllocatedBytes() - before;
        checks.holds("a new object takes " + given + " bytes", given < 20_000);
    }
}
