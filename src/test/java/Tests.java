import java.lang.reflect.InvocationTargetException;
import java.lang.reflect.Method;
import java.util.Arrays;
import java.util.Comparator;
import java.util.function.LongSupplier;

/** What tests of the class have in common: answers that are due, texts fed and told, calls that change nothing. */
abstract class Tests {
    static final int NONE = -1;
    static final int NOT = -2;
    static final int FULL = -3;
    static final int MAX = Integer.MAX_VALUE;
    static final int MIN = Integer.MIN_VALUE;
    static final int LEAST = 2;
    static final int MOST = 1_000_000_000;
    static final int LAST_PRIME = 999_999_937;
    static final int[] NO_NUMBERS = {MIN, -1, 0, LEAST - 1, MOST + 1, MAX};

    static int wrong;
    static String promise = "";

    static void due(long got, long want, String what) {
        if (got != want) {
            wrong++;
            System.out.println(promise + ": " + what + " answered " + got + ", due is " + want);
        }
    }

    static void alike(String got, String want, String what) {
        if (!got.equals(want)) {
            wrong++;
            System.out.println(promise + ": " + what + " is \"" + got + "\", due is \"" + want + "\"");
        }
    }

    static String textOf(PrimeProofs x, int line) {
        StringBuilder got = new StringBuilder();
        int signs = x.spell(line, NONE);
        for (int i = 0; i < signs; i++) {
            got.append((char) x.spell(line, i));
        }
        return got.toString();
    }

    static void spelled(PrimeProofs x, int line, String want) {
        alike(textOf(x, line), want, "line " + line);
    }

    static void feed(PrimeProofs x, String text) {
        int blanks = (20 - text.length() % 20) % 20;
        String padded = text + " ".repeat(blanks);
        for (int at = 0; at < padded.length(); at += 20) {
            int[] v = new int[5];
            for (int i = 0; i < 20; i++) {
                v[i / 4] = v[i / 4] << 8 | padded.charAt(at + i);
            }
            x.feed(v[0], v[1], v[2], v[3], v[4]);
        }
        x.back(blanks);
    }

    static int read(PrimeProofs x, String text) {
        feed(x, text);
        return x.read();
    }

    static PrimeProofs with(String text) {
        PrimeProofs x = new PrimeProofs();
        int told = read(x, text);
        if (told < 0) {
            due(told, 0, "read() of " + text);
        }
        return x;
    }

    /** So many lines "small 2;" and no others. */
    static PrimeProofs withTwos(int lines) {
        PrimeProofs x = new PrimeProofs();
        for (int left = lines; left > 0; left -= 50) {
            read(x, "small 2;".repeat(Math.min(left, 50)));
        }
        due(x.count(0), lines, "lines told");
        return x;
    }

    /** A text that can't be read, and the byte at which it can't. */
    static void fault(String text, int at) {
        PrimeProofs x = with("small 2;");
        due(read(x, text), -4 - at, "read() of \"" + text + "\"");
        due(x.count(0), 1, "lines behind \"" + text + "\"");
        due(x.count(3), 0, "the tape behind \"" + text + "\"");
    }

    /** A text of one line that can be read, whatever is wrong with the line. */
    static void told(String text) {
        PrimeProofs x = new PrimeProofs();
        due(read(x, text), 1, "read() of \"" + text + "\"");
        due(x.count(0), 1, "lines behind \"" + text + "\"");
    }

    static void faultOf(String lines, int want) {
        PrimeProofs x = with(lines);
        due(x.line(x.count(0) - 1, 6), want, "the FAULT of the last of " + lines);
    }

    /** What can be seen of an object: its counts, and its first lines with their rows. */
    static String state(PrimeProofs x) {
        StringBuilder s = new StringBuilder();
        for (int what = 0; what <= 6; what++) {
            s.append(x.count(what)).append(' ');
        }
        s.append(x.right());
        for (int line = 0; line < Math.min(8, x.count(0)); line++) {
            s.append('\n');
            for (int what = 0; what <= 6; what++) {
                s.append(x.line(line, what)).append(' ');
            }
            for (boolean up : new boolean[] {false, true}) {
                int rows = x.line(line, up ? 5 : 4);
                for (int i = 0; i < rows; i++) {
                    s.append(up ? " up" : " down");
                    for (int what = 0; what <= 2; what++) {
                        s.append(' ').append(x.row(line, up, i, what));
                    }
                }
            }
        }
        return s.toString();
    }

    /** A call that answers what is due and leaves all as it was. */
    static void nothing(PrimeProofs x, LongSupplier call, long want, String what) {
        String before = state(x);
        due(call.getAsLong(), want, what);
        alike(state(x), before, "the state behind " + what);
    }

    /** Each test of a class that tells what the document says, in the order of the promises; how many. */
    static int runAll(Class<? extends Tests> tests, int[] testsOf) {
        Method[] all = tests.getDeclaredMethods();
        Arrays.sort(all, Comparator.comparing(Method::getName));
        Arrays.sort(all, Comparator.comparingInt(m -> m.isAnnotationPresent(Says.class) ? m.getAnnotation(Says.class).promise() : 0));
        int run = 0;
        for (Method m : all) {
            Says says = m.getAnnotation(Says.class);
            if (says != null) {
                promise = says.promise() + " (" + m.getName() + ": " + says.words() + ")";
                runOne(m);
                testsOf[says.promise()]++;
                run++;
            }
        }
        return run;
    }

    private static void runOne(Method test) {
        try {
            test.invoke(null);
        } catch (InvocationTargetException e) {
            wrong++;
            System.out.println(promise + ": threw " + e.getCause());
        } catch (IllegalAccessException e) {
            wrong++;
            System.out.println(promise + ": could not be run, " + e);
        }
    }

    /** Ends all as wrong after some seconds: a call that does not end is no answer. */
    static void endWithin(int seconds) {
        Thread watch = new Thread(() -> {
            try {
                Thread.sleep(seconds * 1000L);
            } catch (InterruptedException e) {
                return;
            }
            System.out.println(promise + ": has not ended after " + seconds + " seconds");
            Runtime.getRuntime().halt(1);
        });
        watch.setDaemon(true);
        watch.start();
    }

    static void end(String allIsWell) {
        System.out.println(wrong == 0 ? allIsWell : wrong + " answers are not as due");
        if (wrong != 0) {
            System.exit(1);
        }
    }
}
