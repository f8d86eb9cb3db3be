import java.lang.reflect.Constructor;
import java.lang.reflect.Field;
import java.lang.reflect.Method;
import java.lang.reflect.Modifier;
import java.nio.charset.StandardCharsets;
import java.nio.file.Files;
import java.nio.file.Path;
import java.util.Arrays;
import java.util.Set;
import java.util.TreeSet;
import java.util.regex.Matcher;
import java.util.regex.Pattern;

/** The public face of the document, and those rules of LANGUAGE.md that a program can look for. */
public final class RulesTest {
    private static final String[] FACE = {
        "int letter(int)", "int blank()", "int fault()", "int chapel()", "int person(int,int)", "int as(int,int)",
        "int wrong(int,int)", "int to(int,int)", "int sunday()", "int forgive(int)", "int again(int,int)", "int room(int)",
        "int change(int,int,int)", "int leave(int,int)", "int ring()", "int peace(int)", "int odds(int,int,int)",
        "int see(int,int,boolean)", "int forget()", "int winters(int,int,int)", "int image()", "int restore()",
        "int count(int)", "long digest()"};

    private static int failures = 0;

    public static void main(String[] args) throws Exception {
        constants();
        members();
        classesInside();
        source(Files.readString(Path.of(System.getProperty("program", "src/main/java/LastBench.java")), StandardCharsets.ISO_8859_1));
        System.out.println(failures == 0 ? "the face and the rules stand" : failures + " rules are broken");
        if (failures != 0) {
            System.exit(1);
        }
    }

    private static void rule(boolean holds, String what) {
        if (!holds) {
            failures++;
            System.out.println("not so: " + what);
        }
    }

    private static void constants() {
        rule(LastBench.NONE == -1, "NONE is -1");
        rule(LastBench.UNKNOWN == -101, "UNKNOWN is -101");
        rule(LastBench.OUTSIDE == -102, "OUTSIDE is -102");
        rule(LastBench.STATE == -103, "STATE is -103");
        rule(LastBench.FULL == -104, "FULL is -104");
    }

    private static String signature(Method method) {
        StringBuilder s = new StringBuilder();
        for (Class<?> type : method.getParameterTypes()) {
            s.append(s.length() == 0 ? "" : ",").append(type.getName());
        }
        return method.getReturnType().getName() + " " + method.getName() + "(" + s + ")";
    }

    private static void members() {
        Class<?> type = LastBench.class;
        rule(Modifier.isPublic(type.getModifiers()) && Modifier.isFinal(type.getModifiers()), "the class is public and final");
        Set<String> face = new TreeSet<>();
        Set<String> names = new TreeSet<>();
        for (Method method : type.getDeclaredMethods()) {
            if (Modifier.isPublic(method.getModifiers())) {
                face.add(signature(method));
                names.add(method.getName());
                rule(!Modifier.isStatic(method.getModifiers()), method + " is not static");
            }
        }
        rule(face.equals(new TreeSet<>(Arrays.asList(FACE))), "the public methods are those of the document: " + face);
        for (Method method : type.getDeclaredMethods()) {
            int modifiers = method.getModifiers();
            rule(Modifier.isPublic(modifiers) || Modifier.isPrivate(modifiers), method + " is public or private");
            rule(Modifier.isPublic(modifiers) || !names.contains(method.getName()), method + " has a name of its own");
        }
        Set<String> constants = new TreeSet<>();
        for (Field field : type.getDeclaredFields()) {
            if (!Modifier.isPrivate(field.getModifiers())) {
                constants.add(field.getName());
            }
        }
        rule(constants.equals(new TreeSet<>(Arrays.asList("NONE", "UNKNOWN", "OUTSIDE", "STATE", "FULL"))), "the constants are those of the document: " + constants);
        Constructor<?>[] makers = type.getDeclaredConstructors();
        rule(makers.length == 1 && makers[0].getParameterCount() == 0 && Modifier.isPublic(makers[0].getModifiers()), "there is one constructor");
    }

    private static void classesInside() {
        Class<?>[] inside = LastBench.class.getDeclaredClasses();
        rule(inside.length < 12, "twelve classes at most");
        fieldsOf(LastBench.class);
        for (Class<?> type : inside) {
            int modifiers = type.getModifiers();
            rule(Modifier.isStatic(modifiers), type + " is static");
            rule(!Modifier.isPublic(modifiers) && !Modifier.isProtected(modifiers), type + " is private or package-visible");
            fieldsOf(type);
            for (Method method : type.getDeclaredMethods()) {
                rule(!Arrays.asList(FACE).toString().contains(" " + method.getName() + "("), method + " has a name of its own");
            }
        }
    }

    private static void fieldsOf(Class<?> type) {
        int own = 0;
        for (Field field : type.getDeclaredFields()) {
            if (Modifier.isStatic(field.getModifiers())) {
                rule(Modifier.isFinal(field.getModifiers()), field + " is final");
            } else {
                own++;
            }
        }
        rule(own <= 20, type + " has twenty fields at most");
        for (Method method : type.getDeclaredMethods()) {
            rule(method.getParameterCount() <= 7, method + " takes seven parameters at most");
        }
    }

    private static void source(String text) {
        for (int i = 0; i < text.length(); i++) {
            rule(text.charAt(i) < 128, "a plain sign at " + i);
        }
        String bare = text.replaceAll("(?s)/\\*.*?\\*/", "").replaceAll("//[^\n]*", "").replaceAll("\"[^\"\n]*\"", "\"\"");
        for (String word : new String[] {"throw", "throws", "try", "catch", "finally", "synchronized", "assert", "package", "import",
            "Thread", "Random", "hashCode", "toString", "volatile", "native", "Exception"}) {
            rule(!Pattern.compile("\\b" + word + "\\b").matcher(bare).find(), "no '" + word + "'");
        }
        rule(!bare.contains("->") && !bare.contains("::"), "no lambda, no method reference");
        rule(!Pattern.compile("\\w+Exact\\b").matcher(bare).find(), "none of those that end in Exact");
        rule(!Pattern.compile("static\\s*\\{").matcher(bare).find(), "no static initialiser block");
        rule(!Pattern.compile("\\bwhile\\s*\\(\\s*true|for\\s*\\(\\s*;\\s*;").matcher(bare).find(), "every loop has an end");
        methodLengths(bare);
        nothingIsMadeByCalls(bare);
    }

    /** All calls of a run live in one room, so what is made is made with the object. */
    private static void nothingIsMadeByCalls(String bare) {
        String besides = bare.replaceFirst("(?s)    public LastBench\\(\\) \\{.*?\n    \\}\n", "");
        rule(!besides.equals(bare), "the constructor stands there");
        for (String line : besides.split("\n")) {
            boolean makes = Pattern.compile("\\b(new|clone|copyOf|copyOfRange)\\b").matcher(line).find();
            rule(!makes || line.matches("        final [\\w\\[\\]]+ \\w+ = new [^;]*;"), "made with the object: " + line.trim());
        }
    }

    private static void methodLengths(String bare) {
        Matcher head = Pattern.compile("(?m)^( +)[a-zA-Z][^;=\n]*\\) \\{$").matcher(bare);
        while (head.find()) {
            int end = bare.indexOf("\n" + head.group(1) + "}", head.end());
            long lines = bare.substring(head.start(), Math.max(head.end(), end)).lines().count();
            rule(lines <= 60, "sixty lines at most: " + head.group().trim());
        }
    }
}
