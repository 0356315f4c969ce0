/** All promises: runs of many calls, each compared with what Naive answers. */
final class ModelTest {
    private static long state = 20261119;
    private static CoatPockets x;
    private static Naive y;

    public static void main(String[] args) {
        for (int run = 0; run < 600; run++) {
            x = new CoatPockets();
            y = new Naive();
            int calls = 0;
            if (run % 8 != 0) {
                calls += start();
            }
            while (calls < 470) {
                calls += act(run);
            }
            look();
        }
        Due.end();
    }

    private static int below(int end) {
        state = state * 6364136223846793005L + 1442695040888963407L;
        return (int) ((state >>> 33) % end);
    }

    /** Mostly 0 .. end - 1, now and then beside it. */
    private static int near(int end) {
        int odd = below(40);
        if (odd == 0) {
            return -1 - below(2);
        }
        if (odd == 1) {
            return end + below(2);
        }
        if (odd == 2) {
            return below(2) == 0 ? Integer.MIN_VALUE + below(3) : Integer.MAX_VALUE - below(3);
        }
        return below(end);
    }

    private static void same(String call, int got, int want) {
        Due.due(call, got, want);
    }

    private static int start() {
        int calls = read(school(), true);
        int things = below(9);
        for (int t = 0; t < things; t++) {
            int kind = below(4);
            int boy = below(8);
            same("thing(" + kind + ", " + boy + ")", x.thing(kind, boy), y.thing(kind, boy));
        }
        return calls + things;
    }

    private static int read(String text, boolean school) {
        int calls = 1;
        for (int at = 0; at < text.length(); at += 8) {
            String part = text.substring(at, Math.min(at + 8, text.length()));
            same("type " + part, x.type(Due.packed(part), part.length()), y.type(Due.packed(part), part.length()));
            calls++;
        }
        if (school) {
            same("school \"" + text + "\"", x.school(), y.school());
        } else {
            same("day \"" + text + "\"", x.day(), y.day());
        }
        return calls;
    }

    private static String school() {
        StringBuilder text = new StringBuilder();
        int coats = 1 + below(4);
        for (int c = 0; c < coats; c++) {
            int seen = 0;
            int size = 1 + below(4);
            for (int i = 0; i < size; i++) {
                int boy = below(8);
                if ((seen >> boy & 1) == 0) {
                    seen |= 1 << boy;
                    text.append(boy);
                }
            }
            if (below(3) == 0) {
                text.append('h').append(below(4));
            }
            text.append(c + 1 < coats ? "," : "");
        }
        return spoilt(text);
    }

    private static String day() {
        StringBuilder text = new StringBuilder();
        int things = Math.max(1, y.count(1));
        int coats = Math.max(1, y.count(0));
        int acts = 1 + below(8);
        for (int k = 0; k < acts; k++) {
            text.append(k > 0 ? ";" : "");
            int thing = below(things);
            int coat = below(coats);
            int where = y.where(thing);
            switch (below(6)) {
                case 0:
                    text.append('p').append(thing).append('>').append(coat);
                    break;
                case 1:
                    text.append('t').append(thing).append('>').append(where >= 10 && where < 14 ? where - 10 : coat);
                    break;
                case 2:
                    text.append('s').append(coat);
                    break;
                case 3:
                    text.append('g').append(thing).append('>').append(Math.max(0, y.of(coat, 0)));
                    break;
                default:
                    text.append('b');
                    break;
            }
        }
        return spoilt(text);
    }

    private static String spoilt(StringBuilder text) {
        while (below(3) == 0) {
            text.insert(below(text.length() + 1), ' ');
        }
        int how = below(6);
        if (how == 0) {
            text.setCharAt(below(text.length()), (char) (32 + below(95)));
        } else if (how == 1) {
            String signs = "0123456789h,;ptsgb> ";
            text.insert(below(text.length() + 1), signs.charAt(below(signs.length())));
        } else if (how == 2) {
            text.setLength(below(text.length() + 1));
        }
        return text.length() > 100 ? text.substring(0, 100) : text.toString();
    }

    private static int act(int run) {
        int kind = below(100);
        if (kind < 26) {
            return things();
        }
        if (kind < 42) {
            same("bell()", x.bell(), y.bell());
            return 1;
        }
        if (kind < 60) {
            return asks();
        }
        if (kind < 70) {
            return debts();
        }
        if (kind < 84) {
            return sheets();
        }
        if (kind < 88) {
            return made();
        }
        if (kind < 94) {
            return read(day(), false);
        }
        if (kind < 95 || kind < 96 && run % 2 == 0) {
            return read(school(), true);
        }
        return texts();
    }

    private static int made() {
        int turn = below(3) == 0 ? near(4096) : below(4) == 0 ? near(8) : near(8) + 8 * near(8);
        int n = near(3) + (below(2) == 0 ? 1 : 0);
        int hole = near(4);
        int coat = near(4);
        int kind = near(4);
        int boy = near(8);
        same("coat(" + turn + ", " + n + ", " + hole + ")", x.coat(turn, n, hole), y.coat(turn, n, hole));
        same("hole(" + coat + ", " + hole + ")", x.hole(coat, hole), y.hole(coat, hole));
        if (below(4) == 0) {
            same("thing(" + kind + ", " + boy + ")", x.thing(kind, boy), y.thing(kind, boy));
        }
        return 3;
    }

    private static int things() {
        int thing = near(Math.max(1, y.count(1)));
        int coat = near(Math.max(1, y.count(0)));
        int where = y.where(thing);
        if (below(3) > 0 && where >= 10 && where < 14) {
            coat = where - 10;
        }
        if (below(2) == 0 && where >= 0 && where < 8) {
            for (int c = 0; c < y.count(0); c++) {
                coat = y.of(c, 0) == where ? c : coat;
            }
        }
        int boy = below(2) == 0 ? y.of(coat, 0) : near(8);
        switch (below(7)) {
            case 0:
            case 1:
            case 2:
                same("put(" + thing + ", " + coat + ")", x.put(thing, coat), y.put(thing, coat));
                break;
            case 3:
                same("take(" + thing + ", " + coat + ")", x.take(thing, coat), y.take(thing, coat));
                break;
            case 4:
                same("search(" + coat + ")", x.search(coat), y.search(coat));
                break;
            default:
                same("give(" + thing + ", " + boy + ")", x.give(thing, boy), y.give(thing, boy));
                break;
        }
        same("where(" + thing + ")", x.where(thing), y.where(thing));
        return 2;
    }

    private static int asks() {
        int boy = near(8);
        int other = near(8);
        int n = near(25);
        int thieves = below(3) == 0 ? 0 : below(8) == 0 ? near(256) : 1 << below(8) | 1 << below(8);
        int what = near(2);
        int coat = near(Math.max(1, y.count(0)));
        int i = near(5) - 1;
        switch (below(6)) {
            case 0:
                same("reach(" + boy + ", " + n + ", " + thieves + ")", x.reach(boy, n, thieves), y.reach(boy, n, thieves));
                return 1;
            case 1:
            case 2:
                same("soonest(" + boy + ", " + other + ", " + thieves + ", " + what + ")",
                    x.soonest(boy, other, thieves, what), y.soonest(boy, other, thieves, what));
                return 1;
            case 3:
                same("dealt(" + coat + ", " + boy + ", " + other + ", " + i + ")", x.dealt(coat, boy, other, i),
                    y.dealt(coat, boy, other, i));
                return 1;
            case 4:
                same("wore(" + coat + ", " + n + ")", x.wore(coat, n), y.wore(coat, n));
                return 1;
            default:
                int tell = near(9);
                same("of(" + coat + ", " + tell + ")", x.of(coat, tell), y.of(coat, tell));
                same("count(" + tell + ")", x.count(tell), y.count(tell));
                same("told(" + boy + ", " + tell + ")", x.told(boy, tell), y.told(boy, tell));
                return 3;
        }
    }

    private static int debts() {
        int a = near(8);
        int b = near(8);
        int v = below(2) == 0 ? below(4) : near(1000);
        switch (below(7)) {
            case 0:
                same("balance(" + a + ")", x.balance(a), y.balance(a));
                return 1;
            case 1:
                same("payments()", x.payments(), y.payments());
                return 1;
            case 2:
                int seed = below(2) == 0 ? near(100) : below(Integer.MAX_VALUE);
                same("seed(" + seed + ")", x.seed(seed), y.seed(seed));
                return 1;
            case 3:
                if (below(4) == 0) {
                    same("image()", x.image(), y.image());
                } else if (below(4) == 0) {
                    same("restore()", x.restore(), y.restore());
                }
                return 1;
            default:
                same("owe(" + a + ", " + b + ", " + v + ")", x.owe(a, b, v), y.owe(a, b, v));
                return 1;
        }
    }

    private static int sheets() {
        int s = below(3) > 0 ? below(2) : near(4);
        int lane = below(4) > 0 ? s % 3 : near(3);
        int i = below(2) == 0 ? near(24) : below(4) * 3;
        int n = near(7);
        switch (below(9)) {
            case 0:
                int size = below(3) > 0 ? 24 : near(25);
                same("sheet(" + s + ", " + lane + ", " + size + ")", x.sheet(s, lane, size), y.sheet(s, lane, size));
                return 1;
            case 1:
                if (below(5) == 0) {
                    same("drop(" + s + ")", x.drop(s), y.drop(s));
                }
                return 1;
            case 2:
            case 3:
                return row(s, lane, i);
            case 4:
                same("film(" + s + ", " + lane + ", " + i + ")", x.film(s, lane, i), y.film(s, lane, i));
                return 1;
            case 5:
            case 6:
                same("owes(" + s + ", " + lane + ", " + i + ", " + n + ")", x.owes(s, lane, i, n), y.owes(s, lane, i, n));
                return 1;
            default:
                int to = below(2) == 0 ? s : near(4);
                int j = below(3) * 3 + (below(4) == 0 ? near(10) : 0);
                int many = below(4) == 0 ? near(10) : 3 * below(4);
                same("copy(" + s + ", " + i + ", " + to + ", " + j + ", " + many + ")", x.copy(s, i, to, j, many),
                    y.copy(s, i, to, j, many));
                return 1;
        }
    }

    private static int row(int s, int lane, int i) {
        int[] items = {below(8), below(8), below(3) == 0 ? below(70000) - 3000 : below(30)};
        for (int k = 0; k < 3; k++) {
            same("item(" + s + ", " + lane + ", " + (i + k) + ", " + items[k] + ")", x.item(s, lane, i + k, items[k]),
                y.item(s, lane, i + k, items[k]));
        }
        return 3;
    }

    private static int texts() {
        int n = near(9);
        long w = 0;
        for (int i = 0; i < 8; i++) {
            w = w << 8 | (below(30) == 0 ? below(256) : 32 + below(95));
        }
        same("type(" + w + ", " + n + ")", x.type(w, n), y.type(w, n));
        if (below(5) == 0) {
            same("school()", x.school(), y.school());
        }
        return 2;
    }

    private static void look() {
        for (int t = 0; t < 8; t++) {
            same("at last where(" + t + ")", x.where(t), y.where(t));
            same("at last told(" + t + ", 1)", x.told(t, 1), y.told(t, 1));
            same("at last told(" + t + ", 2)", x.told(t, 2), y.told(t, 2));
            same("at last balance(" + t + ")", x.balance(t), y.balance(t));
        }
        same("at last seed(1)", x.seed(1), y.seed(1));
    }
}
