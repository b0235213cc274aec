import java.util.ArrayDeque;
import java.util.Map;
import java.util.TreeMap;
import java.util.TreeSet;

/**
 * The document's terms told once more, in another way than the class does: time goes tick by tick,
 * and everything is kept in sorted maps. Its caller sees to it that all calls are legal.
 */
final class Model {
    /** One that is heard, with the ticks since its last greeting. */
    private static final class Heard {
        int silent = 0;
        boolean friend = false;
        /** For each due origin the ticks since it was sent; -1 if it is to be sent at once. */
        final TreeMap<Integer, Integer> due = new TreeMap<>();
    }

    final int itself;
    final boolean[] on = new boolean[8];
    int time = 0;
    int greatestOwn = 0;
    int[] last = null;
    long named = 0;
    private final TreeMap<Integer, int[]> known = new TreeMap<>();
    private final TreeMap<Integer, Heard> heard = new TreeMap<>();
    private final TreeSet<Integer> greetings = new TreeSet<>();
    private final ArrayDeque<int[]> thanks = new ArrayDeque<>();

    Model(int itself) {
        this.itself = itself < 0 || itself > 63 ? 0 : itself;
    }

    private static int key(int port, int router) {
        return 100 * port + router;
    }

    boolean port(int port, boolean state) {
        boolean other = on[port] != state;
        on[port] = state;
        if (!state) {
            greetings.remove(port);
            heard.keySet().removeIf(key -> key / 100 == port);
        }
        return other;
    }

    int greeting(int port, int from, boolean names) {
        Heard one = heard.get(key(port, from));
        if (one == null) {
            if (heard.size() == 16) {
                return 0;
            }
            one = new Heard();
            heard.put(key(port, from), one);
        }
        one.silent = 0;
        if (names && !one.friend) {
            for (int origin : known.keySet()) {
                one.due.put(origin, -1);
            }
        }
        if (!names) {
            one.due.clear();
        }
        one.friend = names;
        return names ? 2 : 1;
    }

    int advert(int port, int from, int origin, int number, int body) {
        Heard sender = heard.get(key(port, from));
        if (sender == null || !sender.friend) {
            return -1;
        }
        if (thanks.size() < 64) {
            thanks.add(new int[] {2, port, from, origin, number, 0});
        }
        int[] old = known.get(origin);
        if (old != null && number >= old[0]) {
            sender.due.remove(origin);
        }
        if (old != null && number < old[0]) {
            sender.due.put(origin, -1);
            return 2;
        }
        if (origin == itself) {
            boolean greater = number > greatestOwn;
            greatestOwn = Math.max(greatestOwn, number);
            return greater ? 3 : 1;
        }
        if (old != null && number == old[0]) {
            return 1;
        }
        learn(sender, origin, number, body);
        return 0;
    }

    private void learn(Heard source, int origin, int number, int body) {
        known.put(origin, new int[] {number, body});
        for (Heard one : heard.values()) {
            if (one.friend && one != source) {
                one.due.put(origin, -1);
            }
        }
    }

    boolean thanks(int port, int from, int origin, int number) {
        Heard sender = heard.get(key(port, from));
        if (sender == null || !known.containsKey(origin) || known.get(origin)[0] != number) {
            return false;
        }
        return sender.due.remove(origin) != null;
    }

    int own(int body) {
        greatestOwn++;
        learn(null, itself, greatestOwn, body);
        return greatestOwn;
    }

    boolean forget(int origin) {
        for (Heard one : heard.values()) {
            one.due.remove(origin);
        }
        return known.remove(origin) != null;
    }

    int run(int n) {
        for (int i = 0; i < n; i++) {
            tick();
        }
        return time;
    }

    private void tick() {
        time++;
        for (Heard one : heard.values()) {
            one.silent++;
            one.due.replaceAll((origin, ticks) -> ticks < 0 ? -1 : ticks + 1);
        }
        heard.values().removeIf(one -> one.silent == 80);
        for (int port = 0; time % 20 == 0 && port < 8; port++) {
            if (on[port]) {
                greetings.add(port);
            }
        }
    }

    boolean next() {
        if (!greetings.isEmpty()) {
            last = new int[] {1, greetings.pollFirst(), -1, -1, 0, 0};
            named = 0;
            for (int key : heard.keySet()) {
                named += key / 100 == last[1] ? 1L << (key % 100) : 0L;
            }
            return true;
        }
        int[] first = thanks.isEmpty() ? firstAdvert() : thanks.poll();
        if (first == null) {
            return false;
        }
        last = first;
        named = 0;
        return true;
    }

    private int[] firstAdvert() {
        for (Map.Entry<Integer, Heard> one : heard.entrySet()) {
            for (Map.Entry<Integer, Integer> due : one.getValue().due.entrySet()) {
                if (due.getValue() < 0 || due.getValue() >= 15) {
                    due.setValue(0);
                    int[] advert = known.get(due.getKey());
                    return new int[] {3, one.getKey() / 100, one.getKey() % 100, due.getKey(), advert[0], advert[1]};
                }
            }
        }
        return null;
    }

    int state(int port, int router) {
        Heard one = heard.get(key(port, router));
        return one == null ? 0 : one.friend ? 2 : 1;
    }

    int known(int origin) {
        return known.containsKey(origin) ? known.get(origin)[0] : -1;
    }

    int body(int origin) {
        return known.containsKey(origin) ? known.get(origin)[1] : 0;
    }

    int due(int port, int router) {
        Heard one = heard.get(key(port, router));
        return one == null ? 0 : one.due.size();
    }

    int count(boolean friends) {
        int found = 0;
        for (Heard one : heard.values()) {
            found += one.friend || !friends ? 1 : 0;
        }
        return found;
    }
}
