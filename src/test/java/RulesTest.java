import java.io.IOException;
import java.lang.management.ManagementFactory;
import java.lang.reflect.Executable;
import java.lang.reflect.Field;
import java.lang.reflect.Method;
import java.lang.reflect.Modifier;
import java.nio.file.Files;
import java.nio.file.Path;
import java.util.Set;
import java.util.TreeSet;
import java.util.regex.Matcher;
import java.util.regex.Pattern;

/** The face of the document, and those rules of LANGUAGE.md that can be seen from outside or in the text. */
public final class RulesTest {
    private static final String[] FACE = {
        "type(int)", "clear()", "tables()", "f(int,int)", "g(int)", "sets(int,int,int)", "undo()", "made(int)",
        "closed(int)", "law(int)", "change(int)", "congruence(int)", "principal(int,int)", "pair(int,int,int)",
        "free(int,int)", "term(int)", "sees(int)", "forget()", "unseen()", "keep(int)", "back(int)", "count(int)"};
    private static final String[] CONSTANTS = {"BAD", "STATE", "FULL", "NONE"};
    private static final String[] FORBIDDEN = {
        "\\bthrow\\b", "\\bthrows\\b", "\\btry\\b", "\\bcatch\\b", "\\bsynchronized\\b", "\\bassert\\b", "\\bnative\\b",
        "->", "::", "\\bstatic\\s*\\{", "\\bprotected\\b", "Exact\\b", "\\bequals\\b", "\\bhashCode\\b", "\\btoString\\b"};
    private static final int MOST_LINES_OF_METHOD = 60;
    private static final int MOST_CLASSES = 12;
    private static final int MOST_FIELDS = 20;
    private static final long MOST_BYTES_OF_OBJECT = 16_000;

    private final Checks checks = new Checks();

    public static void main(String[] args) throws IOException {
        RulesTest test = new RulesTest();
        test.face();
        test.classesInside();
        test.text(Files.readString(Path.of(args.length > 0 ? args[0] : "src/main/java/AlgebraLaws.java")));
        test.room();
        test.checks.end();
    }

    private void face() {
        Set<String> due = new TreeSet<>(Set.of(FACE));
        Set<String> is = new TreeSet<>();
        for (Method m : AlgebraLaws.class.getDeclaredMethods()) {
            if (Modifier.isPublic(m.getModifiers())) {
                checks.isTrue(m + " answers an int", m.getReturnType() == int.class);
                checks.isTrue(m + " is of the object", !Modifier.isStatic(m.getModifiers()));
                is.add(m.toString().replaceAll(".*AlgebraLaws\\.", ""));
            } else {
                checks.isTrue(m + " is private", Modifier.isPrivate(m.getModifiers()));
            }
        }
        checks.isTrue("the face is " + is, is.equals(due));
        checks.isTrue("the class is public and final",
            (AlgebraLaws.class.getModifiers() & (Modifier.PUBLIC | Modifier.FINAL)) == (Modifier.PUBLIC | Modifier.FINAL));
        Executable[] makers = AlgebraLaws.class.getDeclaredConstructors();
        checks.due("one constructor", makers.length, 1);
        checks.isTrue("it is public and plain", Modifier.isPublic(makers[0].getModifiers()) && makers[0].getParameterCount() == 0);
        Set<String> constants = Set.of(CONSTANTS);
        for (Field field : AlgebraLaws.class.getDeclaredFields()) {
            boolean isConstant = constants.contains(field.getName());
            checks.isTrue(field + " is open or hidden",
                isConstant ? Modifier.isPublic(field.getModifiers()) : Modifier.isPrivate(field.getModifiers()));
        }
    }

    private void classesInside() {
        Set<String> open = new TreeSet<>();
        for (String call : FACE) {
            open.add(call.substring(0, call.indexOf('(')));
        }
        Class<?>[] inside = AlgebraLaws.class.getDeclaredClasses();
        checks.isTrue("not too many classes", inside.length + 1 <= MOST_CLASSES);
        fields(AlgebraLaws.class);
        for (Class<?> one : inside) {
            checks.isTrue(one + " is static", Modifier.isStatic(one.getModifiers()));
            fields(one);
            for (Method m : one.getDeclaredMethods()) {
                checks.isTrue(m + " has a name of its own", !open.contains(m.getName()));
                checks.isTrue(m + " takes at most seven", m.getParameterCount() <= 7);
            }
        }
    }

    private void fields(Class<?> one) {
        int fields = 0;
        for (Field field : one.getDeclaredFields()) {
            if (Modifier.isStatic(field.getModifiers())) {
                checks.isTrue(field + " is final", Modifier.isFinal(field.getModifiers()));
            } else {
                fields++;
            }
        }
        checks.isTrue(one + " has not too many fields", fields <= MOST_FIELDS);
    }

    private void text(String text) {
        String code = text.replaceAll("(?s)/\\*.*?\\*/", "").replaceAll("//[^\n]*", "");
        for (String word : FORBIDDEN) {
            checks.isTrue("no " + word, !Pattern.compile(word).matcher(code).find());
        }
        Matcher imports = Pattern.compile("import ([^;]*);").matcher(code);
        while (imports.find()) {
            checks.isTrue(imports.group(1) + " is on the list", imports.group(1).equals("java.util.Arrays"));
        }
        checks.isTrue("no package", !code.contains("package "));
        checks.isTrue("plain signs", text.chars().allMatch(c -> c < 127));
        Matcher method = Pattern.compile("(?ms)^(    |        )(?!    )[^\n=]*\\([^\n]*\\) \\{\n(.*?)^\\1\\}$").matcher(text);
        int methods = 0;
        while (method.find()) {
            methods++;
            String body = method.group(2);
            checks.isTrue("not too long: " + method.group().lines().findFirst().get(),
                body.lines().count() + 2 <= MOST_LINES_OF_METHOD);
        }
        checks.isTrue("methods are found: " + methods, methods > 80);
    }

    /** A run's objects live in one room: all that calls need is made with the object. */
    private void room() {
        com.sun.management.ThreadMXBean bean = (com.sun.management.ThreadMXBean) ManagementFactory.getThreadMXBean();
        String[] texts = {"n4;f0300000100003330;g0123;", "n3;f010111011;g210;", "n2;f0001;g10;"};
        long most = 0;
        long mostOfObject = 0;
        for (int i = 0; i < 40; i++) {
            long start = bean.getCurrentThreadAllocatedBytes();
            AlgebraLaws a = new AlgebraLaws();
            long after = bean.getCurrentThreadAllocatedBytes();
            Checks.tells(a, texts[i % texts.length]);
            allCalls(a);
            long end = bean.getCurrentThreadAllocatedBytes();
            if (i >= 10) {
                mostOfObject = Math.max(mostOfObject, after - start);
                most = Math.max(most, end - after);
            }
        }
        checks.isTrue("an object takes " + mostOfObject + " bytes", mostOfObject <= MOST_BYTES_OF_OBJECT);
        checks.due("bytes that the calls take", most, 0);
    }

    private static void allCalls(AlgebraLaws a) {
        for (int i = 0; i < 9; i++) {
            a.count(i);
            a.law(i);
            a.change(i);
            a.closed(i);
            a.congruence(i);
            a.made(i);
            a.free(i, i % 2);
            a.free(i % 2 + 1, i % 2);
            a.term(i % 2);
            a.f(i, 0);
            a.g(i);
            a.principal(i % 2, i % 3);
            a.pair(i % 2, i % 3, i % 4);
            a.sets(i % 2, i % 3 - 1, i % 2);
            a.sees(i);
            a.unseen();
            a.keep(i % 3);
            a.back(i % 3);
        }
        a.undo();
        a.forget();
        a.clear();
    }
}
