import java.util.LinkedHashMap;
import java.util.Map;
import java.util.function.Supplier;

/**
 * All that can be told of an object from outside, now and in the time to come, in named parts. Each
 * part is asked of an object of its own, made anew in the same way, since one object has 512 calls.
 */
final class Story {
    private static final int MESSAGES = 25;
    private static final int TICKS = 90;

    private Story() {
    }

    static Map<String, String> of(Supplier<Bench> maker) {
        Map<String, String> parts = new LinkedHashMap<>();
        for (int port = 0; port < 8; port++) {
            parts.put("states and dues on port " + port, neighbours(maker.get(), port));
        }
        parts.put("what is known", adverts(maker.get()));
        parts.put("counts, time, last message", rest(maker.get()));
        parts.put("which ports are on", ports(maker.get()));
        parts.put("its own numbers", ownNumbers(maker.get()));
        for (int skipped = 0; skipped <= 150; skipped += MESSAGES) {
            parts.put("what is sent after " + skipped + " messages", messages(maker.get(), skipped));
        }
        parts.put("what is sent later", later(maker.get()));
        parts.put("who is heard later", heardLater(maker.get()));
        return parts;
    }

    private static String neighbours(Bench x, int port) {
        StringBuilder told = new StringBuilder();
        for (int router = 0; router < 64; router++) {
            told.append(x.state(port, router)).append('/').append(x.due(port, router)).append(' ');
        }
        return told.toString();
    }

    private static String adverts(Bench x) {
        StringBuilder told = new StringBuilder();
        for (int origin = 0; origin < 64; origin++) {
            told.append(x.known(origin)).append('/').append(x.body(origin)).append(' ');
        }
        return told.toString();
    }

    private static String rest(Bench x) {
        String none = Check.thrown(() -> x.message(0));
        String message = none.equals("nothing") ? Check.lastMessage(x) : none;
        return x.count(false) + " " + x.count(true) + " " + x.time() + " " + x.named() + " " + message;
    }

    private static String ports(Bench x) {
        StringBuilder told = new StringBuilder();
        for (int port = 0; port < 8; port++) {
            told.append(x.port(port, true)).append(' ');
        }
        return told.toString();
    }

    private static String ownNumbers(Bench x) {
        return x.own(1) + " " + x.own(2);
    }

    private static String messages(Bench x, int skipped) {
        for (int i = 0; i < skipped; i++) {
            x.next();
        }
        StringBuilder told = new StringBuilder();
        for (int i = 0; i < MESSAGES && x.next(); i++) {
            told.append(Check.lastMessage(x)).append("; ");
        }
        return told.toString();
    }

    private static String later(Bench x) {
        StringBuilder told = new StringBuilder();
        int made = 0;
        for (int tick = 0; tick < TICKS; tick++) {
            told.append(x.run(1)).append(": ");
            while (made < MESSAGES && x.next()) {
                told.append(Check.lastMessage(x)).append("; ");
                made++;
            }
        }
        return told.toString();
    }

    private static String heardLater(Bench x) {
        StringBuilder told = new StringBuilder();
        for (int tick = 0; tick < TICKS; tick++) {
            told.append(x.run(1)).append(": ").append(x.count(false)).append('/').append(x.count(true)).append(' ');
        }
        return told.toString();
    }
}
