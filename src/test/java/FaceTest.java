import java.lang.reflect.Constructor;
import java.lang.reflect.Field;
import java.lang.reflect.Method;
import java.lang.reflect.Modifier;
import java.nio.file.Files;
import java.nio.file.Path;
import java.util.Arrays;
import java.util.List;
import java.util.Set;
import java.util.TreeSet;

/** The public face is the document's, no more and no less; the source keeps to what LANGUAGE.md lets be seen in words. */
public final class FaceTest {
    private static final String[] METHODS = {
        "int one(int,int,int,int,int)", "int treaty(int,int,boolean)", "int hair(int)", "int pay(int,int,int)",
        "int say(int)", "int wipe()", "int fault()", "int judge(int)", "int behind(int,int)", "int states(int)",
        "int annexed(int)", "int done()", "int sees(int,int)", "int camps(int)", "int late(int)",
        "int stamps(int,int,int,int,int)", "int seen(int,boolean)", "int forget()", "int fits(int)", "int ask(int)",
        "int lift(int)", "long votes(int,int,int,int)", "int year(int,int,int)", "int image(int)",
        "int restore(int)", "int told(int)"};
    private static final String[] FORBIDDEN = {
        "throw", "throws", "try", "catch", "finally", "synchronized", "assert", "Random", "Thread", "Runtime", "Optional",
        "HashMap", "TreeMap", "HashSet", "LinkedList", "Stream", "getClass", "hashCode", "identityHashCode"};
    private static final List<String> IMPORTS =
            List.of("java.util.ArrayList", "java.util.Arrays", "java.util.Iterator", "java.util.List", "java.util.*");

    public static void main(String[] args) {
        Checks.check("the constants", FaceTest::constants);
        Checks.check("the methods and the constructor", FaceTest::members);
        Checks.check("classes inside", FaceTest::inside);
        Checks.check("words that the language leaves out", FaceTest::words);
        Checks.end();
    }

    private static void constants() {
        Checks.due("UNKNOWN", -1, VeilNations.UNKNOWN);
        Checks.due("OUTSIDE", -2, VeilNations.OUTSIDE);
        Checks.due("STATE", -3, VeilNations.STATE);
        Checks.due("FULL", -4, VeilNations.FULL);
        Checks.due("NO", -5, VeilNations.NO);
        Checks.due("NONE", -6, VeilNations.NONE);
        Checks.due("GONE", -1000000000000000000L, VeilNations.GONE);
        Set<String> open = new TreeSet<>();
        for (Field field : VeilNations.class.getDeclaredFields()) {
            if (!Modifier.isPrivate(field.getModifiers())) {
                open.add(field.getName());
            }
            if (Modifier.isStatic(field.getModifiers()) && !Modifier.isFinal(field.getModifiers())) {
                Checks.wrong("a static field is not final: " + field.getName());
            }
        }
        same(new TreeSet<>(List.of("UNKNOWN", "OUTSIDE", "STATE", "FULL", "NO", "NONE", "GONE")), open);
    }

    private static void members() {
        if (VeilNations.class.getModifiers() != (Modifier.PUBLIC | Modifier.FINAL)) {
            Checks.wrong("the class is not just public and final");
        }
        Constructor<?>[] constructors = VeilNations.class.getDeclaredConstructors();
        Checks.due("constructors", 1, constructors.length);
        Checks.due("parameters", 0, constructors[0].getParameterCount());
        Set<String> open = new TreeSet<>();
        Set<String> names = new TreeSet<>();
        for (Method method : VeilNations.class.getDeclaredMethods()) {
            if (method.getModifiers() == Modifier.PUBLIC) {
                names.add(method.getName());
            }
            if (!Modifier.isPrivate(method.getModifiers())) {
                open.add(told(method));
            }
        }
        same(new TreeSet<>(Arrays.asList(METHODS)), open);
        for (Method method : VeilNations.class.getDeclaredMethods()) {
            if (Modifier.isPrivate(method.getModifiers()) && names.contains(method.getName())) {
                Checks.wrong("a private method has a public one's name: " + method.getName());
            }
        }
    }

    private static String told(Method method) {
        StringBuilder text = new StringBuilder(method.getReturnType() + " " + method.getName() + "(");
        for (Class<?> type : method.getParameterTypes()) {
            text.append(text.charAt(text.length() - 1) == '(' ? "" : ",").append(type);
        }
        return text.append(")").toString();
    }

    private static void same(Set<String> want, Set<String> got) {
        if (!want.equals(got)) {
            Checks.wrong("due is " + want + ", there is " + got);
        }
    }

    private static void inside() {
        Class<?>[] classes = VeilNations.class.getDeclaredClasses();
        if (classes.length > 13) {
            Checks.wrong("too many classes: " + classes.length);
        }
        for (Class<?> inner : classes) {
            int modifiers = inner.getModifiers();
            if (!Modifier.isStatic(modifiers) || Modifier.isPublic(modifiers) || Modifier.isProtected(modifiers)) {
                Checks.wrong("not static, or open: " + inner.getName());
            }
            long fields = Arrays.stream(inner.getDeclaredFields())
                    .filter(field -> !Modifier.isStatic(field.getModifiers())).count();
            if (fields > 22) {
                Checks.wrong("too many fields: " + inner.getName());
            }
            for (Method method : inner.getDeclaredMethods()) {
                if (method.getParameterCount() > 7) {
                    Checks.wrong("too many parameters: " + method);
                }
            }
        }
    }

    private static void words() {
        String source = source().replaceAll("(?s)/\\*.*?\\*/", "").replaceAll("//[^\n]*", "");
        for (String word : FORBIDDEN) {
            if (source.matches("(?s).*\\b" + word + "\\b.*")) {
                Checks.wrong("there is " + word);
            }
        }
        for (String line : source.split("\n")) {
            String left = line.strip();
            if (left.startsWith("package ") || left.contains("::") || left.matches("static\\s*\\{.*")
                    || left.contains("->") && !left.startsWith("case ") && !left.startsWith("default ")
                    || left.matches(".*\\bSystem\\.(?!arraycopy\\b).*") || left.matches(".*\\w+Exact\\(.*")) {
                Checks.wrong("there is " + left);
            }
            if (left.startsWith("import ") && !IMPORTS.contains(left.substring(7, left.length() - 1))) {
                Checks.wrong("there is " + left);
            }
        }
        if (source().chars().anyMatch(sign -> sign > 126)) {
            Checks.wrong("there is a sign over 126");
        }
    }

    private static String source() {
        try {
            return Files.readString(Path.of("src/main/java/VeilNations.java"));
        } catch (java.io.IOException unread) {
            Checks.wrong("the source can not be read: " + unread);
            return "";
        }
    }
}
