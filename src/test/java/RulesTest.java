import java.lang.reflect.Constructor;
import java.lang.reflect.Field;
import java.lang.reflect.Method;
import java.lang.reflect.Modifier;
import java.nio.file.Files;
import java.nio.file.Path;
import java.util.Arrays;
import java.util.List;
import java.util.Set;
import java.util.TreeSet;
import java.util.regex.Matcher;
import java.util.regex.Pattern;

/** What of the rules of LANGUAGE.md can be seen from the source or from the class by itself. */
public final class RulesTest {
    private static final String SOURCE = "src/main/java/PrimeProofs.java";
    private static final String[] FACE = {
        "int find(int,int)", "int feed(int,int,int,int,int)", "int back(int)", "int read()", "int set(int,int,int)",
        "int alter(int,boolean,int,int,int)", "int cut(int,boolean,int)", "int move(int,int)", "int mend(int)",
        "int prune(int)", "int drop()", "int clear()", "int line(int,int)", "int row(int,boolean,int,int)",
        "long right()", "long rests(int)", "int deep(int)", "long falls(int)", "int cost(int)", "int loose(int,int)",
        "long shared(int,int)", "int spell(int,int)", "int proof(int)", "int prime(int,int)", "int often(int,int)",
        "int needs(int,int)", "int fewest(int)", "int next(int)", "int smooth(int,int)", "int bound(int)",
        "int chase(int,int)", "int primes(int,int)", "int passes(int,int)", "int fools(int,int)",
        "int power(int,int,int)", "int order(int,int)", "int jacobi(int,int)", "int u(int,int,int,int)",
        "int units(int)", "int count(int)"};
    private static final String[] FORBIDDEN = {
        "throw", "throws", "try", "catch", "finally", "synchronized", "assert", "package", "yield", "protected", "volatile",
        "transient", "native", "strictfp", "var", "hashCode", "System.in", "System.out", "Object", "Exception", "random",
        "nanoTime", "currentTimeMillis", "Thread", "parseInt", "parseLong", "String.valueOf", "format"};
    private static final Set<String> LIBRARY = Set.of("int", "long", "short", "byte", "char", "boolean", "double", "float",
            "String", "StringBuilder", "Integer", "ArrayList");
    private static final Set<String> IMPORTS = Set.of("ArrayList", "List", "Iterator", "Arrays");
    private static final Set<String> ARRAY_FUNCTIONS = Set.of("copyOf", "copyOfRange", "fill");

    private static int wrong;

    private static void must(boolean holds, String what) {
        if (!holds) {
            wrong++;
            System.out.println("rule broken: " + what);
        }
    }

    private static String signature(Method m) {
        StringBuilder s = new StringBuilder(m.getReturnType().getSimpleName()).append(" ").append(m.getName()).append("(");
        for (int i = 0; i < m.getParameterCount(); i++) {
            s.append(i > 0 ? "," : "").append(m.getParameterTypes()[i].getSimpleName());
        }
        return s.append(")").toString();
    }

    private static void face() {
        Class<?> c = PrimeProofs.class;
        must(Modifier.isPublic(c.getModifiers()) && Modifier.isFinal(c.getModifiers()), "1: public and final");
        Set<String> found = new TreeSet<>();
        for (Method m : c.getDeclaredMethods()) {
            if (Modifier.isPublic(m.getModifiers())) {
                found.add(signature(m));
            } else {
                must(Modifier.isPrivate(m.getModifiers()), "1: another member, " + m);
            }
        }
        must(found.equals(new TreeSet<>(Arrays.asList(FACE))), "1: the face is " + found);
        must(c.getDeclaredConstructors().length == 1, "1: one constructor");
        for (Constructor<?> k : c.getDeclaredConstructors()) {
            must(Modifier.isPublic(k.getModifiers()) && k.getParameterCount() == 0, "1: the constructor");
        }
        for (Field f : c.getDeclaredFields()) {
            must(Modifier.isPrivate(f.getModifiers()) || f.getName().equals("NONE"), "1: another member, " + f);
        }
        must(PrimeProofs.NONE == -1, "NONE");
    }

    private static void inside() {
        Class<?>[] all = PrimeProofs.class.getDeclaredClasses();
        must(all.length + 1 <= 12, "11: too many classes");
        Set<String> names = new TreeSet<>();
        for (String s : FACE) {
            names.add(s.substring(s.indexOf(' ') + 1, s.indexOf('(')));
        }
        for (Class<?> c : all) {
            must(Modifier.isStatic(c.getModifiers()), "2: not static, " + c);
            must(Modifier.isPrivate(c.getModifiers()), "1: not private, " + c);
            for (Method m : c.getDeclaredMethods()) {
                must(!names.contains(m.getName()), "1: the name of a public one, " + m);
                must(m.getParameterCount() <= 7, "11: parameters, " + m);
            }
        }
        for (Class<?> c : all) {
            fields(c);
        }
        fields(PrimeProofs.class);
    }

    private static void fields(Class<?> c) {
        int own = 0;
        for (Field f : c.getDeclaredFields()) {
            if (Modifier.isStatic(f.getModifiers())) {
                must(Modifier.isFinal(f.getModifiers()), "5: a static field, " + f);
            } else {
                own++;
            }
        }
        must(own <= 20, "11: too many fields in " + c);
    }

    /** The source without comments and without what stands in quotes. */
    private static String bare(String source) {
        String s = source.replaceAll("(?s)/\\*.*?\\*/", "").replaceAll("//[^\n]*", "");
        return s.replaceAll("\"[^\"\n]*\"", "\"\"").replaceAll("'[^'\n]*'", "' '");
    }

    private static void words(String s) {
        for (String word : FORBIDDEN) {
            must(!Pattern.compile("\\b" + Pattern.quote(word) + "\\b").matcher(s).find(), "a word, " + word);
        }
        must(!s.contains("->"), "2: a lambda");
        must(!s.contains("::"), "2: a method reference");
        must(!Pattern.compile("\"\\s*\\+|\\+\\s*\"").matcher(s).find(), "10: joined texts");
        must(!Pattern.compile("for\\s*\\(\\s*;\\s*;|while\\s*\\(\\s*true").matcher(s).find(), "9: a loop without an end");
        Set<String> own = new TreeSet<>(LIBRARY);
        for (Class<?> c : PrimeProofs.class.getDeclaredClasses()) {
            own.add(c.getSimpleName());
        }
        Matcher made = Pattern.compile("new\\s+(\\w+)").matcher(s);
        while (made.find()) {
            must(own.contains(made.group(1)), "4: new " + made.group(1));
        }
        Matcher brought = Pattern.compile("import\\s+([\\w.*]+)").matcher(s);
        while (brought.find()) {
            must(IMPORTS.contains(brought.group(1).replace("java.util.", "")), "4: " + brought.group());
        }
        library(s);
        for (int i = 0; i < s.length(); i++) {
            must(s.charAt(i) < 128, "a sign above 127");
        }
    }

    private static void library(String s) {
        Matcher called = Pattern.compile("\\b(Math|Long|Integer|System|Arrays)\\.(\\w+)").matcher(s);
        while (called.find()) {
            String function = called.group(2);
            boolean known = switch (called.group(1)) {
                case "System" -> function.equals("arraycopy");
                case "Arrays" -> ARRAY_FUNCTIONS.contains(function);
                default -> !function.endsWith("Exact");
            };
            must(known, "4: " + called.group());
        }
    }

    private static void lengths(List<String> lines) {
        int begun = -1;
        for (int i = 0; i < lines.size(); i++) {
            String l = lines.get(i);
            boolean head = l.matches(" {4}(    )?\\S.*\\) \\{") && !l.matches("\\s*(if|for|switch|else|}).*");
            if (head) {
                begun = i;
            } else if (begun >= 0 && l.matches(" {4}(    )?}") && l.indexOf('}') == indent(lines.get(begun))) {
                must(i - begun < 60, "11: too long, " + lines.get(begun).trim());
                begun = -1;
            }
            must(l.length() <= 130, "a line of " + l.length() + " signs, " + (i + 1));
        }
    }

    private static int indent(String line) {
        return line.length() - line.stripLeading().length();
    }

    public static void main(String[] args) throws Exception {
        String source = Files.readString(Path.of(SOURCE));
        face();
        inside();
        words(bare(source));
        lengths(source.lines().toList());
        System.out.println(wrong == 0 ? "all rules hold" : wrong + " rules are broken");
        if (wrong != 0) {
            System.exit(1);
        }
    }
}
