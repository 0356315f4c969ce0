import java.util.ArrayDeque;
import java.util.LinkedHashMap;
import java.util.Map;

/** Where a knife can come to, found by doing the acts themselves, each try as days on a new object. */
final class Tries {
    static final int NOBODY = 8;

    private final String school;
    private final int ahead;
    private final int from;
    private final int thieves;
    private final int shunned;
    /** For each place at a bell, as "11@3", the acts by which it came there. */
    private final Map<String, String> acts = new LinkedHashMap<>();
    private final ArrayDeque<String> open = new ArrayDeque<>();

    /** From a boy's hands when so many bells have gone by, never by the hands of one who is shunned. */
    Tries(String school, int ahead, int from, int thieves, int shunned, int bells) {
        this.school = school;
        this.ahead = ahead;
        this.from = from;
        this.thieves = thieves & ~(1 << from);
        this.shunned = shunned;
        found(from, 0, "");
        while (!open.isEmpty()) {
            String here = open.remove();
            goOn(here, Integer.parseInt(here.substring(here.indexOf('@') + 1)), bells);
        }
    }

    boolean has(int place, int bell) {
        return acts.containsKey(place + "@" + bell);
    }

    int hands(int bell) {
        int set = 0;
        for (int boy = 0; boy < 8; boy++) {
            set |= has(boy, bell) ? 1 << boy : 0;
        }
        return set;
    }

    private void found(int place, int bell, String by) {
        String here = place + "@" + bell;
        if (place != shunned && !acts.containsKey(here)) {
            acts.put(here, by);
            open.add(here);
        }
    }

    private void goOn(String here, int bell, int bells) {
        String by = acts.get(here);
        CoatPockets x = done(by);
        int place = x.where(0);
        Due.due("by" + by + " it comes to " + here, here.equals(place + "@" + bell));
        if (place < 8) {
            putAnywhere(x, place, bell, by);
        } else {
            takeAndPutBack(x, place - 10, bell, by);
            if (x.of(place - 10, 2) > 0) {
                return;
            }
        }
        x.bell();
        if (bell < bells && (place < 8 || (thieves >> x.of(place - 10, 0) & 1) == 0)) {
            found(place, bell + 1, by + ";b");
        }
    }

    private void putAnywhere(CoatPockets x, int boy, int bell, String by) {
        for (int c = 0; c < x.count(0); c++) {
            if (x.put(0, c) == boy) {
                found(x.where(0), bell, by + ";p0>" + c);
                x.take(0, c);
            }
        }
    }

    private void takeAndPutBack(CoatPockets x, int coat, int bell, String by) {
        x.take(0, coat);
        found(x.where(0), bell, by + ";t0>" + coat);
        x.put(0, coat);
    }

    private CoatPockets done(String acts) {
        CoatPockets x = Due.of(school);
        for (int k = 0; k < ahead; k++) {
            x.bell();
        }
        x.thing(0, from);
        String rest = acts;
        while (!rest.isEmpty()) {
            int end = rest.length() <= 90 ? rest.length() : rest.lastIndexOf(';', 90);
            String day = rest.substring(1, end);
            Due.due("day \"" + day + "\"", Due.day(x, day), day.split(";").length);
            rest = rest.substring(end);
        }
        return x;
    }
}
