import java.util.ArrayDeque;
import java.util.ArrayList;
import java.util.HashSet;
import java.util.List;
import java.util.Set;
import java.util.regex.Matcher;
import java.util.regex.Pattern;

/**
 * The document said another way, to compare with: things as classes, texts by patterns, ways by a
 * search from place to place, sheets as the machine's own arrays with what it throws.
 */
final class Naive {
    /** A coat, and how many bells it has been worn on from its first boy. */
    static final class Coat {
        final List<Integer> turn;
        int hole;
        int bells;

        Coat(List<Integer> turn, int hole, int bells) {
            this.turn = turn;
            this.hole = hole;
            this.bells = bells;
        }

        int wearer(int later) {
            return turn.get(Math.floorMod(bells + later, turn.size()));
        }

        Coat another() {
            return new Coat(turn, hole, bells);
        }
    }

    static class Knife {
        String where;
        Set<Integer> readers = new HashSet<>();
        int eater = 8;

        int kind() {
            return 0;
        }

        void worn(Coat coat) {
        }

        /** Whether it fell. */
        boolean bell(Naive all, int c) {
            Coat coat = all.coats.get(c);
            if (coat.hole == 0) {
                return false;
            }
            all.draw = (all.draw * 1103515245L + 12345L) % 2147483648L;
            if (all.draw / 65536 % 4 >= coat.hole) {
                return false;
            }
            where = "lining " + c;
            return true;
        }

        Knife another() {
            Knife copy = make(kind());
            copy.where = where;
            copy.readers = new HashSet<>(readers);
            copy.eater = eater;
            return copy;
        }

        static Knife make(int kind) {
            return kind == 0 ? new Knife() : kind == 1 ? new Sweet() : kind == 2 ? new Note() : new Frog();
        }
    }

    static class Sweet extends Knife {
        @Override
        int kind() {
            return 1;
        }

        @Override
        boolean bell(Naive all, int c) {
            eater = all.coats.get(c).wearer(0);
            where = "eaten 0";
            return false;
        }
    }

    static final class Note extends Knife {
        @Override
        int kind() {
            return 2;
        }

        @Override
        void worn(Coat coat) {
            readers.add(coat.wearer(0));
        }
    }

    static final class Frog extends Sweet {
        @Override
        int kind() {
            return 3;
        }

        @Override
        boolean bell(Naive all, int c) {
            where = "pocket " + (c + 1) % all.coats.size();
            return false;
        }
    }

    private List<Coat> coats = new ArrayList<>();
    private List<Knife> things = new ArrayList<>();
    private int[][] owed = new int[8][8];
    private int bells;
    private long draw = 1;
    private String tape = "";
    private Naive kept;
    private final Object[] sheets = new Object[4];

    // ---- 1

    int coat(int turn, int n, int hole) {
        List<Integer> boys = new ArrayList<>();
        if (turn < 0 || n < 1 || n > 4 || hole < 0 || hole > 3) {
            return -1;
        }
        int rest = turn;
        for (int i = 0; i < n; i++) {
            boys.add(rest % 8);
            rest /= 8;
        }
        if (rest != 0 || new HashSet<>(boys).size() < n) {
            return -1;
        }
        if (coats.size() == 4) {
            return -3;
        }
        coats.add(new Coat(boys, hole, 0));
        return coats.size() - 1;
    }

    int thing(int kind, int boy) {
        if (kind < 0 || kind > 3 || !boy(boy)) {
            return -1;
        }
        if (things.size() == 8) {
            return -3;
        }
        Knife made = Knife.make(kind);
        made.where = "hands " + boy;
        things.add(made);
        return things.size() - 1;
    }

    int where(int t) {
        if (!thing(t)) {
            return -1;
        }
        String[] where = things.get(t).where.split(" ");
        return List.of("hands", "pocket", "lining", "eaten").indexOf(where[0]) * 10 + Integer.parseInt(where[1]);
    }

    int told(int t, int what) {
        if (!thing(t) || what < 0 || what > 2) {
            return -1;
        }
        return what == 0 ? things.get(t).kind() : what == 1 ? bits(things.get(t).readers) : things.get(t).eater;
    }

    int of(int c, int what) {
        if (!has(c) || what < 0 || what > 8) {
            return -1;
        }
        Coat coat = coats.get(c);
        if (what >= 5) {
            return what - 5 < coat.turn.size() ? coat.turn.get(what - 5) : -4;
        }
        Set<Integer> in = new HashSet<>();
        for (int t = 0; t < things.size(); t++) {
            if (things.get(t).where.equals((what == 3 ? "pocket " : "lining ") + c)) {
                in.add(t);
            }
        }
        return what == 0 ? coat.wearer(0) : what == 1 ? coat.turn.size() : what == 2 ? coat.hole : bits(in);
    }

    int hole(int c, int v) {
        if (!has(c) || v < 0 || v > 3) {
            return -1;
        }
        int was = coats.get(c).hole;
        coats.get(c).hole = v;
        return was;
    }

    int type(long w, int n) {
        if (n < 1 || n > 8) {
            return -1;
        }
        StringBuilder more = new StringBuilder();
        for (int i = n - 1; i >= 0; i--) {
            int b = (int) (w >>> 8 * i) & 0xff;
            if (b < 32 || b > 126) {
                return -1;
            }
            more.append((char) b);
        }
        if (tape.length() + n > 100) {
            return -3;
        }
        tape += more;
        return tape.length();
    }

    int school() {
        String text = tape;
        tape = "";
        int fault = faultOf(text, SCHOOL, true);
        if (fault != 0) {
            return fault;
        }
        coats.clear();
        for (String one : text.replace(" ", "").split(",")) {
            String[] parts = one.split("h");
            List<Integer> turn = new ArrayList<>();
            for (char boy : parts[0].toCharArray()) {
                turn.add(boy - '0');
            }
            coats.add(new Coat(turn, parts.length > 1 ? parts[1].charAt(0) - '0' : 0, 0));
        }
        for (Knife thing : things) {
            if (thing.where.matches("(pocket|lining).*")) {
                thing.where = "hands 0";
            }
        }
        return coats.size();
    }

    int day() {
        String text = tape;
        tape = "";
        int fault = faultOf(text, dayPattern(), false);
        if (fault != 0) {
            return fault;
        }
        int done = 0;
        for (String act : text.replace(" ", "").split(";")) {
            int first = act.length() > 1 ? act.charAt(1) - '0' : 0;
            int second = act.length() > 3 ? act.charAt(3) - '0' : 0;
            int answer = switch (act.charAt(0)) {
                case 'p' -> put(first, second);
                case 't' -> take(first, second);
                case 'g' -> give(first, second);
                case 's' -> search(first);
                default -> bell();
            };
            if (answer < 0) {
                return done;
            }
            done++;
        }
        return done;
    }

    private static final Pattern SCHOOL = Pattern.compile("[0-7]{1,4}(h[0-3])?(,[0-7]{1,4}(h[0-3])?){0,3}");

    /** A sign that no tape has stands where there is nothing to name. */
    private Pattern dayPattern() {
        String thing = things.isEmpty() ? "\u00ff" : "[0-" + (things.size() - 1) + "]";
        String coat = coats.isEmpty() ? "\u00ff" : "[0-" + (coats.size() - 1) + "]";
        String act = "([pt]" + thing + ">" + coat + "|g" + thing + ">[0-7]|s" + coat + "|b)";
        return Pattern.compile(act + "(;" + act + ")*");
    }

    /** OK (0), or the fault: the first byte with which what stands ahead can't go on. */
    private static int faultOf(String text, Pattern whole, boolean unlike) {
        for (int at = 0; at <= text.length(); at++) {
            String start = text.substring(0, at).replace(" ", "");
            Matcher matcher = whole.matcher(start);
            boolean matches = matcher.matches();
            if (!matches && !matcher.hitEnd() || unlike && start.matches("(.*,)?[^,h]*([0-7])[^,h]*\\2.*")) {
                return -20 - (at - 1);
            }
            if (at == text.length()) {
                return matches ? 0 : -20 - at;
            }
        }
        return 0;
    }

    int count(int what) {
        switch (what) {
            case 0:
                return coats.size();
            case 1:
                return things.size();
            case 2:
                return bells;
            case 3:
            case 4:
            case 5:
                String place = List.of("pocket", "lining", "eaten").get(what - 3);
                return (int) things.stream().filter(t -> t.where.startsWith(place)).count();
            default:
                return -1;
        }
    }

    // ---- 2

    int put(int t, int c) {
        if (!thing(t) || !has(c)) {
            return -1;
        }
        int boy = coats.get(c).wearer(0);
        Knife it = things.get(t);
        if (!it.where.equals("hands " + boy)) {
            return -2;
        }
        it.where = "pocket " + c;
        it.worn(coats.get(c));
        return boy;
    }

    int take(int t, int c) {
        if (!thing(t) || !has(c)) {
            return -1;
        }
        if (!things.get(t).where.equals("pocket " + c)) {
            return -2;
        }
        things.get(t).where = "hands " + coats.get(c).wearer(0);
        return coats.get(c).wearer(0);
    }

    int search(int c) {
        if (!has(c)) {
            return -1;
        }
        int found = 0;
        for (Knife it : things) {
            if (it.where.equals("lining " + c)) {
                it.where = "pocket " + c;
                it.worn(coats.get(c));
                found++;
            }
        }
        return found;
    }

    int give(int t, int boy) {
        if (!thing(t) || !boy(boy)) {
            return -1;
        }
        Set<Integer> wearing = new HashSet<>();
        for (Coat coat : coats) {
            wearing.add(coat.wearer(0));
        }
        String[] where = things.get(t).where.split(" ");
        int giver = Integer.parseInt(where[1]);
        if (!where[0].equals("hands") || giver == boy || !wearing.contains(giver) || !wearing.contains(boy)) {
            return -2;
        }
        things.get(t).where = "hands " + boy;
        return giver;
    }

    int bell() {
        if (bells == 9999) {
            return -3;
        }
        bells++;
        int fell = 0;
        for (Knife it : things) {
            if (it.where.startsWith("pocket")) {
                fell += it.bell(this, Integer.parseInt(it.where.substring(7))) ? 1 : 0;
            }
        }
        for (Coat coat : coats) {
            coat.bells++;
        }
        for (Knife it : things) {
            if (it.where.startsWith("pocket")) {
                it.worn(coats.get(Integer.parseInt(it.where.substring(7))));
            }
        }
        return fell;
    }

    /** Whether there is a way from hands to a place (h and a boy, p and a coat) at a bell, never by some hands. */
    private static Set<String> ways(List<Coat> coats, int from, int thieves, int notBy) {
        Set<String> seen = new HashSet<>();
        ArrayDeque<String> open = new ArrayDeque<>();
        open.add("h" + from + "@0");
        while (!open.isEmpty()) {
            String here = open.remove();
            if (here.startsWith("h" + notBy + "@") || !seen.add(here)) {
                continue;
            }
            int at = here.charAt(1) - '0';
            int bell = Integer.parseInt(here.substring(3));
            if (here.charAt(0) == 'h') {
                for (int c = 0; c < coats.size(); c++) {
                    if (coats.get(c).wearer(bell) == at) {
                        open.add("p" + c + "@" + bell);
                    }
                }
                if (bell < 24) {
                    open.add("h" + at + "@" + (bell + 1));
                }
                continue;
            }
            Coat coat = coats.get(at);
            int wearer = coat.wearer(bell);
            if (wearer != from && (thieves >> wearer & 1) != 0) {
                continue;
            }
            open.add("h" + wearer + "@" + bell);
            if (coat.hole == 0 && bell < 24) {
                open.add("p" + at + "@" + (bell + 1));
            }
        }
        return seen;
    }

    int reach(int boy, int n, int thieves) {
        if (!boy(boy) || n < 0 || n > 24 || !set(thieves)) {
            return -1;
        }
        Set<String> seen = ways(coats, boy, thieves, -1);
        Set<Integer> boys = new HashSet<>();
        for (int b = 0; b < 8; b++) {
            if (seen.contains("h" + b + "@" + n)) {
                boys.add(b);
            }
        }
        return bits(boys);
    }

    int soonest(int from, int to, int thieves, int what) {
        if (!boy(from) || !boy(to) || !set(thieves) || what < 0 || what > 1) {
            return -1;
        }
        int bell = soonest(coats, from, to, thieves);
        if (bell == -4 || what == 0) {
            return bell;
        }
        Set<String> without = ways(coats, from, thieves, to);
        Set<Integer> via = new HashSet<>();
        for (int c = 0; c < coats.size(); c++) {
            if (coats.get(c).wearer(bell) == to && without.contains("p" + c + "@" + bell)) {
                via.add(c);
            }
        }
        return bits(via);
    }

    private static int soonest(List<Coat> coats, int from, int to, int thieves) {
        Set<String> seen = ways(coats, from, thieves, -1);
        for (int bell = 0; bell <= 24; bell++) {
            if (seen.contains("h" + to + "@" + bell)) {
                return bell;
            }
        }
        return -4;
    }

    int dealt(int c, int from, int to, int i) {
        if (!has(c) || !boy(from) || !boy(to) || i < -1 || i > 3) {
            return -1;
        }
        List<List<Integer>> orders = new ArrayList<>();
        orders(new ArrayList<>(), coats.get(c).turn, orders);
        orders.sort((a, b) -> a.toString().compareTo(b.toString()));
        int least = 25;
        List<Integer> best = List.of();
        for (List<Integer> order : orders) {
            List<Coat> other = new ArrayList<>(coats);
            other.set(c, new Coat(order, coats.get(c).hole, 0));
            int bell = soonest(other, from, to, 0);
            if (bell != -4 && bell < least) {
                least = bell;
                best = order;
            }
        }
        return least == 25 ? -4 : i == -1 ? least : i < best.size() ? best.get(i) : -4;
    }

    private static void orders(List<Integer> start, List<Integer> boys, List<List<Integer>> all) {
        if (start.size() == boys.size()) {
            all.add(new ArrayList<>(start));
        }
        for (Integer boy : boys) {
            if (!start.contains(boy)) {
                start.add(boy);
                orders(start, boys, all);
                start.remove(boy);
            }
        }
    }

    int wore(int c, int n) {
        if (!has(c) || n < 0 || n > 24) {
            return -1;
        }
        Set<Integer> boys = new HashSet<>();
        for (int k = 0; k <= n; k++) {
            boys.add(coats.get(c).wearer(-k));
        }
        return bits(boys);
    }

    // ---- 3

    int owe(int a, int b, int v) {
        if (!boy(a) || !boy(b) || a == b || v < 0 || v > 999) {
            return -1;
        }
        int was = owed[a][b];
        owed[a][b] = v;
        return was;
    }

    int balance(int boy) {
        return boy(boy) ? balances()[boy] : -100001;
    }

    private int[] balances() {
        int[] balances = new int[8];
        for (int a = 0; a < 8; a++) {
            for (int b = 0; b < 8; b++) {
                balances[a] -= owed[a][b];
                balances[b] += owed[a][b];
            }
        }
        return balances;
    }

    int payments() {
        return fewestPayments(balances(), 0);
    }

    /** By payments themselves: each boy in his turn pays, or gets, all at once, from some later one. */
    static int fewestPayments(int[] balances, int from) {
        while (from < 8 && balances[from] == 0) {
            from++;
        }
        if (from == 8) {
            return 0;
        }
        int fewest = 8;
        for (int other = from + 1; other < 8; other++) {
            if (Integer.signum(balances[other]) == -Integer.signum(balances[from])) {
                balances[other] += balances[from];
                fewest = Math.min(fewest, 1 + fewestPayments(balances, from + 1));
                balances[other] -= balances[from];
            }
        }
        return fewest;
    }

    int seed(int v) {
        if (v < 0) {
            return -1;
        }
        int was = (int) draw;
        draw = v;
        return was;
    }

    int image() {
        kept = new Naive();
        kept.become(this);
        return 1;
    }

    int restore() {
        if (kept == null) {
            return -4;
        }
        become(kept);
        return 1;
    }

    private void become(Naive other) {
        coats = new ArrayList<>();
        for (Coat coat : other.coats) {
            coats.add(coat.another());
        }
        things = new ArrayList<>();
        for (Knife it : other.things) {
            things.add(it.another());
        }
        owed = new int[8][];
        for (int a = 0; a < 8; a++) {
            owed[a] = other.owed[a].clone();
        }
        bells = other.bells;
        draw = other.draw;
    }

    // ---- 4: the machine tells what can't be

    interface Work {
        int on(Object row);
    }

    private static int told(Object row, Work work) {
        try {
            return work.on(row);
        } catch (NullPointerException e) {
            return -11;
        } catch (ClassCastException e) {
            return -12;
        } catch (IndexOutOfBoundsException e) {
            return -13;
        } catch (NegativeArraySizeException e) {
            return -14;
        }
    }

    private static int read(Object row, int lane, int i) {
        return lane == 0 ? ((byte[]) row)[i] : lane == 1 ? ((short[]) row)[i] : ((int[]) row)[i];
    }

    private static int write(Object row, int lane, int i, int v) {
        if (lane == 0) {
            ((byte[]) row)[i] = (byte) v;
        } else if (lane == 1) {
            ((short[]) row)[i] = (short) v;
        } else {
            ((int[]) row)[i] = v;
        }
        return 1;
    }

    private static int size(Object row, int lane) {
        return lane == 0 ? ((byte[]) row).length : lane == 1 ? ((short[]) row).length : ((int[]) row).length;
    }

    private static int laneOf(Object row) {
        return row instanceof byte[] ? 0 : row instanceof short[] ? 1 : 2;
    }

    int owes(int s, int lane, int from, int n) {
        if (s < 0 || s > 3 || lane < 0 || lane > 2 || n < 1 || n > 6) {
            return -1;
        }
        return told(sheets[s], row -> {
            if (row == null) {
                throw new NullPointerException();
            }
            java.util.Objects.checkFromIndexSize(from, 3 * n, size(row, lane));
            int[][] trial = new int[8][];
            for (int a = 0; a < 8; a++) {
                trial[a] = owed[a].clone();
            }
            int together = 0;
            for (int k = from; k < from + 3 * n; k += 3) {
                int a = read(row, lane, k);
                int b = read(row, lane, k + 1);
                int v = read(row, lane, k + 2);
                if (!boy(a) || !boy(b) || a == b || v < 0 || v > 999 || trial[a][b] + v > 999) {
                    return -2;
                }
                trial[a][b] += v;
                together += v;
            }
            owed = trial;
            return together;
        });
    }

    int film(int s, int lane, int from) {
        if (s < 0 || s > 3 || lane < 0 || lane > 2) {
            return -1;
        }
        return told(sheets[s], row -> {
            if (row == null) {
                throw new NullPointerException();
            }
            java.util.Objects.checkFromIndexSize(from, things.size(), size(row, lane));
            for (int t = 0; t < things.size(); t++) {
                write(row, lane, from + t, where(t));
            }
            return things.size();
        });
    }

    int sheet(int s, int lane, int n) {
        if (s < 0 || s > 3 || lane < 0 || lane > 2 || n > 24) {
            return -1;
        }
        return told(null, none -> {
            sheets[s] = lane == 0 ? new byte[n] : lane == 1 ? new short[n] : new int[n];
            return n;
        });
    }

    int drop(int s) {
        if (s < 0 || s > 3) {
            return -1;
        }
        return told(sheets[s], row -> {
            int had = java.lang.reflect.Array.getLength(row);
            sheets[s] = null;
            return had;
        });
    }

    int item(int s, int lane, int i, int v) {
        if (s < 0 || s > 3 || lane < 0 || lane > 2) {
            return -1;
        }
        return told(sheets[s], row -> row == null ? -11 : write(row, lane, i, v));
    }

    int copy(int from, int i, int to, int j, int n) {
        if (from < 0 || from > 3 || to < 0 || to > 3) {
            return -1;
        }
        return told(sheets[from], row -> {
            if (row == null || sheets[to] == null) {
                return -11;
            }
            if (laneOf(row) != laneOf(sheets[to])) {
                return -12;
            }
            System.arraycopy(row, i, sheets[to], j, n);
            return n;
        });
    }

    // ---- names

    private static boolean boy(int b) {
        return b >= 0 && b < 8;
    }

    private static boolean set(int s) {
        return s >= 0 && s < 256;
    }

    private boolean thing(int t) {
        return t >= 0 && t < things.size();
    }

    private boolean has(int c) {
        return c >= 0 && c < coats.size();
    }

    private static int bits(Set<Integer> set) {
        int bits = 0;
        for (int one : set) {
            bits |= 1 << one;
        }
        return bits;
    }
}
