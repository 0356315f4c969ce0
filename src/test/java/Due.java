/** Counts and prints the calls whose answer is not the one that is due. */
final class Due {
    private static int calls = 0;
    private static int wrong = 0;

    private Due() {
    }

    static void due(String call, long got, long want) {
        calls++;
        if (got != want) {
            wrong++;
            System.out.println(call + " answered " + got + ", due is " + want);
        }
    }

    static void due(String what, boolean holds) {
        due(what, holds ? 1 : 0, 1);
    }

    static void end() {
        System.out.println(wrong == 0 ? "all " + calls + " answers are as due" : wrong + " of " + calls + " answers are not as due");
        if (wrong != 0 || calls == 0) {
            System.exit(1);
        }
    }

    /** Types a text, eight bytes a call; the last answer. */
    static int type(CoatPockets x, String text) {
        int answer = 0;
        for (int at = 0; at < text.length(); at += 8) {
            String part = text.substring(at, Math.min(at + 8, text.length()));
            answer = x.type(packed(part), part.length());
        }
        return answer;
    }

    static long packed(String part) {
        long w = 0;
        for (int i = 0; i < part.length(); i++) {
            w = w << 8 | part.charAt(i);
        }
        return w;
    }

    static int school(CoatPockets x, String text) {
        type(x, text);
        return x.school();
    }

    static int day(CoatPockets x, String text) {
        type(x, text);
        return x.day();
    }
}
