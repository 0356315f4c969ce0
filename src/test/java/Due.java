import java.lang.reflect.Method;
import java.util.Arrays;
import java.util.Comparator;

/** Counts and prints the calls whose answer is not the one that is due. */
final class Due {
    private static int calls = 0;
    private static int wrong = 0;

    private Due() {
    }

    static void due(String call, long got, long want) {
        calls++;
        if (got != want) {
            wrong++;
            System.out.println(call + " answered " + got + ", due is " + want);
        }
    }

    static void due(String what, boolean holds) {
        due(what, holds ? 1 : 0, 1);
    }

    static void end() {
        System.out.println(wrong == 0 ? "all " + calls + " answers are as due" : wrong + " of " + calls + " answers are not as due");
        if (wrong != 0 || calls == 0) {
            System.exit(1);
        }
    }

    /** Runs each test of a class Promise.., whose name must begin with the number of its promise. */
    static void run(Class<?> tests) throws ReflectiveOperationException {
        String start = "promise" + Integer.parseInt(tests.getSimpleName().replaceAll("\\D", ""));
        Method[] methods = tests.getDeclaredMethods();
        Arrays.sort(methods, Comparator.comparing(Method::getName));
        for (Method test : methods) {
            boolean named = test.getName().matches(start + "[A-Z]\\w*");
            due(test.getName() + " is a test if, and only if, its name says so", named == test.isAnnotationPresent(Says.class));
            if (named) {
                runOne(test);
            }
        }
        end();
    }

    private static void runOne(Method test) throws ReflectiveOperationException {
        int callsAhead = calls;
        int wrongAhead = wrong;
        test.invoke(null);
        due(test.getName() + " looks at some answer", calls > callsAhead);
        if (wrong > wrongAhead) {
            System.out.println("FAILED: " + test.getName() + ", of: " + String.join(" .. ", test.getAnnotation(Says.class).value()));
        }
    }

    /** A new object of a school; of none, if it is empty. */
    static CoatPockets of(String school) {
        CoatPockets x = new CoatPockets();
        if (!school.isEmpty()) {
            due("school \"" + school + "\"", school(x, school), school.split(",").length);
        }
        return x;
    }

    /** The same, and things of kinds, all in the hands of one boy. */
    static CoatPockets of(String school, int boy, int... kinds) {
        CoatPockets x = of(school);
        for (int t = 0; t < kinds.length; t++) {
            due("thing(" + kinds[t] + ", " + boy + ")", x.thing(kinds[t], boy), t);
        }
        return x;
    }

    /** Types a text, eight bytes a call; the last answer. */
    static int type(CoatPockets x, String text) {
        int answer = 0;
        for (int at = 0; at < text.length(); at += 8) {
            String part = text.substring(at, Math.min(at + 8, text.length()));
            answer = x.type(packed(part), part.length());
        }
        return answer;
    }

    static long packed(String part) {
        long w = 0;
        for (int i = 0; i < part.length(); i++) {
            w = w << 8 | part.charAt(i);
        }
        return w;
    }

    static int school(CoatPockets x, String text) {
        type(x, text);
        return x.school();
    }

    static int day(CoatPockets x, String text) {
        type(x, text);
        return x.day();
    }

    /** Where the things are from the first on. */
    static void places(String when, CoatPockets x, int... want) {
        for (int t = 0; t < want.length; t++) {
            due("where(" + t + ") " + when, x.where(t), want[t]);
        }
    }

    /** What of() tells of a coat from 0 on. */
    static void coat(String when, CoatPockets x, int coat, int... want) {
        for (int what = 0; what < want.length; what++) {
            due("of(" + coat + ", " + what + ") " + when, x.of(coat, what), want[what]);
        }
    }

    /** All that can be asked and stays as it is: some ninety calls. */
    static String seen(CoatPockets x) {
        StringBuilder all = new StringBuilder();
        for (int t = 0; t < 8; t++) {
            all.append(x.where(t)).append('/').append(x.told(t, 0)).append('/').append(x.told(t, 1)).append('/')
                .append(x.told(t, 2)).append(' ');
        }
        for (int c = 0; c < 4; c++) {
            for (int what = 0; what < 9; what++) {
                all.append(x.of(c, what)).append(',');
            }
        }
        for (int what = 0; what < 6; what++) {
            all.append(x.count(what)).append(';');
        }
        for (int boy = 0; boy < 8; boy++) {
            all.append(x.balance(boy)).append(':');
        }
        int draw = x.seed(0);
        x.seed(draw);
        return all.append(x.payments()).append(' ').append(draw).toString();
    }

    static void unchanged(String behind, CoatPockets x, String was) {
        String is = seen(x);
        due("behind " + behind + " all is as it was: " + is + " for " + was, is.equals(was));
    }
}
