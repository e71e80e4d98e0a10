import java.lang.management.ManagementFactory;
import java.lang.reflect.Constructor;
import java.lang.reflect.Field;
import java.lang.reflect.Member;
import java.lang.reflect.Method;
import java.lang.reflect.Modifier;
import java.nio.file.Files;
import java.nio.file.Path;
import java.util.Arrays;
import java.util.HashSet;
import java.util.List;
import java.util.Set;
import java.util.regex.Matcher;
import java.util.regex.Pattern;

/** The public face as the document has it, and what of LANGUAGE.md can be seen from outside or by a plain look at the text. */
public final class FaceTest {
    private static final String[] METHODS = {
        "int feed(int,long)", "int tune()", "int singers()", "int tasks()", "int fault()", "int told(int)", "int note(int,int)",
        "int singer(int,int)", "int task(int,int)", "int sing(int,int)", "int height(int)", "int slid()", "int score(int)",
        "int calls()", "int fooled(int)", "int weigh(int,int)", "int result(int,boolean)", "int forget()", "long odds(int)",
        "int next()", "int left(int)", "int alike(int)", "int lesson(int,int)", "int plan(int,int,int)", "int key(int)",
        "int age(int)", "int passes(int,int)", "int pairs(int)", "int join(int)", "int part()", "int ends(int)",
        "int round(int,int,int,int)", "int write(int)", "int tear()", "int judge()", "int seed(int)", "int keep(int)", "int goBack(int)"};

    public static void main(String[] args) throws Exception {
        constants();
        face();
        classesInside();
        wordsOfTheText();
        lengths();
        room();
        Check.end("FaceTest");
    }

    private static void constants() {
        Check.due("NONE", SungSteps.NONE, -1);
        Check.due("UNKNOWN", SungSteps.UNKNOWN, -1000000001);
        Check.due("OUTSIDE", SungSteps.OUTSIDE, -1000000002);
        Check.due("NOT", SungSteps.NOT, -1000000003);
        Check.due("FULL", SungSteps.FULL, -1000000004);
    }

    private static boolean isSeen(Member member) {
        return !Modifier.isPrivate(member.getModifiers()) && !member.isSynthetic();
    }

    private static String told(Method method) {
        StringBuilder text = new StringBuilder(method.getReturnType().getName()).append(' ').append(method.getName()).append('(');
        String sign = "";
        for (Class<?> type : method.getParameterTypes()) {
            text.append(sign).append(type.getName());
            sign = ",";
        }
        return text.append(')').toString();
    }

    private static void face() {
        Class<?> face = SungSteps.class;
        Check.holds("public and final", Modifier.isPublic(face.getModifiers()) && Modifier.isFinal(face.getModifiers()));
        Set<String> due = new HashSet<>(Arrays.asList(METHODS)), names = new HashSet<>();
        for (Method method : face.getDeclaredMethods()) {
            if (!isSeen(method)) continue;
            Check.holds("in the document and public: " + told(method), due.remove(told(method)) && Modifier.isPublic(method.getModifiers()));
            Check.holds("of an object: " + told(method), !Modifier.isStatic(method.getModifiers()));
            names.add(method.getName());
        }
        Check.holds("all are there but " + due, due.isEmpty());
        for (Method method : face.getDeclaredMethods()) {
            if (!isSeen(method)) Check.holds("a name of its own: " + method.getName(), !names.contains(method.getName()));
        }
        Set<String> constants = new HashSet<>(List.of("NONE", "UNKNOWN", "OUTSIDE", "NOT", "FULL"));
        for (Field field : face.getDeclaredFields()) {
            if (isSeen(field)) Check.holds("a constant: " + field.getName(), constants.remove(field.getName()));
            if (Modifier.isStatic(field.getModifiers())) Check.holds("final: " + field, Modifier.isFinal(field.getModifiers()));
        }
        Check.holds("all constants", constants.isEmpty());
        Constructor<?>[] makers = face.getDeclaredConstructors();
        Check.holds("one constructor", makers.length == 1 && Modifier.isPublic(makers[0].getModifiers()) && makers[0].getParameterCount() == 0);
    }

    private static void classesInside() {
        Class<?>[] inside = SungSteps.class.getDeclaredClasses();
        Check.holds("some twelve classes", inside.length <= 11);
        for (Class<?> one : inside) {
            Check.holds("static: " + one, Modifier.isStatic(one.getModifiers()));
            Check.holds("not public: " + one, !Modifier.isPublic(one.getModifiers()) && !Modifier.isProtected(one.getModifiers()));
            int fields = 0;
            for (Field field : one.getDeclaredFields()) if (!Modifier.isStatic(field.getModifiers())) fields++;
            Check.holds("some twenty fields: " + one, fields <= 20);
        }
    }

    private static String source() throws Exception {
        return Files.readString(Path.of("src/main/java/SungSteps.java"));
    }

    private static void wordsOfTheText() throws Exception {
        String text = source().replaceAll("(?s)/\\*.*?\\*/", "").replaceAll("//[^\n]*", "");
        String[] never = {"throw", "throws", "try", "catch", "finally", "synchronized", "assert", "package", "native", "volatile",
            "Object", "hashCode", "toString", "Random", "Thread", "Exception"};
        for (String word : never) Check.holds("no " + word, !Pattern.compile("\\b" + word + "\\b").matcher(text).find());
        Check.holds("no lambda, no method reference", !text.contains("->") && !text.contains("::"));
        Check.holds("no function that ends in Exact", !text.contains("Exact"));
        Check.holds("no loop without an end", !text.matches("(?s).*while \\(true\\).*|.*for \\(;;\\).*"));
        Matcher calls = Pattern.compile("\\b(System|Arrays|Math|Integer|Long)\\.(\\w+)").matcher(text);
        Set<String> may = Set.of("System.arraycopy", "Arrays.fill", "Math.max", "Math.min", "Math.abs", "Integer.bitCount");
        while (calls.find()) Check.holds("in the list: " + calls.group(), may.contains(calls.group()));
        Matcher imports = Pattern.compile("(?m)^import (.*);").matcher(text);
        while (imports.find()) Check.holds("in the list: " + imports.group(), imports.group(1).equals("java.util.Arrays"));
        for (char c : source().toCharArray()) if (c > 126) Check.holds("signs up to 126: " + (int) c, false);
    }

    /** Methods of some sixty lines, by the depth of their braces; seven parameters at most. */
    private static void lengths() throws Exception {
        List<String> lines = source().lines().toList();
        Pattern head = Pattern.compile("^( {4}| {8})(?! |return|else|if|for|while|switch)[\\w\\[\\]<> ]+ \\w+\\(([^)]*)\\) \\{$");
        for (int k = 0; k < lines.size(); k++) {
            Matcher method = head.matcher(lines.get(k));
            if (!method.matches()) continue;
            int end = k;
            while (end < lines.size() && !lines.get(end).equals(method.group(1) + "}")) end++;
            Check.holds("short: " + lines.get(k), end - k < 60);
            Check.holds("seven at most: " + lines.get(k), method.group(2).split(",").length <= 7);
        }
    }

    /** All calls of a run live in one room: an object is small, and its calls make nothing. */
    private static void room() {
        com.sun.management.ThreadMXBean meter = (com.sun.management.ThreadMXBean) ManagementFactory.getThreadMXBean();
        long mine = Thread.currentThread().getId();
        for (int k = 0; k < 3; k++) {
            SungSteps warm = new SungSteps();
            ready(warm);
            dearCalls(warm);
            tellNothing(warm);
        }
        long before = meter.getThreadAllocatedBytes(mine);
        SungSteps x = new SungSteps();
        long made = meter.getThreadAllocatedBytes(mine) - before;
        Check.holds("an object takes " + made + " bytes", made < 20000);
        ready(x);
        before = meter.getThreadAllocatedBytes(mine);
        for (int k = 0; k < 20; k++) dearCalls(x);
        tellNothing(x);
        made = meter.getThreadAllocatedBytes(mine) - before;
        Check.holds("its calls take " + made + " bytes", made < 2000);
    }

    private static void ready(SungSteps x) {
        Check.tune(x, "note 12;note 14;note 16;");
        Check.singers(x, "singer plain 50 60 40 3 10 20 25;");
        Check.tasks(x, Check.times("task 1 9 9 ear;task 2 8 8 voice;", 3));
    }

    private static void dearCalls(SungSteps x) {
        x.sing(0, 0);
        x.lesson(0, 0);
        x.plan(0, 4, 0);
        x.age(0);
        x.key(0);
        x.left(99);
        x.next();
        x.fooled(0);
        x.join(100 * x.told(6));
        x.ends(1);
        x.write(5);
        x.judge();
        x.keep(0);
        x.goBack(0);
        x.calls();
        x.passes(16, 1);
    }

    private static void tellNothing(SungSteps x) {
        x.tune();
        x.singers();
        x.tasks();
    }
}
