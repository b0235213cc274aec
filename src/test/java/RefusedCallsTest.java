import java.util.Map;
import java.util.function.Consumer;
import java.util.function.Supplier;

/**
 * The refused calls of all promises, each one by itself: its exception, and that nothing has
 * changed. Each is made on an object that is new, on one that is busy, and on one that is full.
 */
public final class RefusedCallsTest {
    private static final int ITSELF = 20;
    private static final int OFF = 2;
    private static final int GREATEST = 1000000000;
    private static final int[] NO_PORTS = {-1, 8, 63, Integer.MAX_VALUE, Integer.MIN_VALUE};
    private static final int[] NO_ROUTERS = {-1, 64, 512, Integer.MAX_VALUE, Integer.MIN_VALUE};
    private static final int[] NO_NUMBERS = {0, -1, GREATEST + 1, Integer.MAX_VALUE, Integer.MIN_VALUE};
    private static final int[] NO_RUNS = {0, -1, 2001, Integer.MAX_VALUE, Integer.MIN_VALUE};
    private static final int[] NO_PARTS = {-1, 6, Integer.MAX_VALUE, Integer.MIN_VALUE};
    private static final String ARGUMENT = "IllegalArgumentException";
    private static final String STATE = "IllegalStateException";

    private static final State NEW = new State("new", RefusedCallsTest::newOne);
    private static final State BUSY = new State("busy", RefusedCallsTest::busyOne);
    private static final State FULL = new State("full", RefusedCallsTest::fullOne);

    /** A way to make an object, and what can be told of one that no refused call was made on. */
    private static final class State {
        final String name;
        final Supplier<Bench> maker;
        final Map<String, String> story;

        State(String name, Supplier<Bench> maker) {
            this.name = name;
            this.maker = maker;
            this.story = Story.of(maker);
        }
    }

    public static void main(String[] args) {
        theStatesAreWhatTheySay();
        noPort();
        noRouter();
        noNumber();
        theSenderIsItself();
        thePortIsOff();
        thePortWentOff();
        noRun();
        noPart();
        noneWasMade();
        theOneNamedFirst();
        itselfIsARouterToo();
        Check.end("RefusedCallsTest");
    }

    private static Bench newOne() {
        return new Bench(ITSELF);
    }

    /** Of all things that can be to be sent there is one, and a message was made. */
    private static Bench busyOne() {
        Bench x = Check.withPorts(ITSELF, 2);
        x.greeting(0, 2, true);
        x.greeting(1, 3, true);
        x.greeting(1, 4, false);
        x.own(5);
        x.next();
        x.run(20);
        x.advert(1, 3, 7, 6, 66);
        return x;
    }

    /** 16 are heard, 64 adverts are known, 64 thanks wait; no message was made. */
    private static Bench fullOne() {
        Bench x = new Bench(ITSELF);
        for (int port = 0; port < 8; port++) {
            x.port(port, port != OFF);
        }
        for (int i = 0; i < 16; i++) {
            x.greeting(i % 2, i + 1, true);
        }
        for (int origin = 0; origin < 64; origin++) {
            x.advert(1, 2, origin, 50, origin);
        }
        x.own(-1);
        return x;
    }

    private static void theStatesAreWhatTheySay() {
        Check.same("busy: two greetings, a thanks, three adverts", Check.sendAll(busyOne()), 6);
        Bench full = fullOne();
        Check.same("full: heard", full.count(false), 16);
        Check.same("full: the adverts that are due", full.due(0, 1), 64);
        Check.same("full: to be sent", full.next(), true);
        Check.same("full: a thanks", full.message(0), 2);
    }

    private static void refused(String what, String exception, Consumer<Bench> call, State... states) {
        for (State state : states) {
            String where = what + ", " + state.name;
            Bench x = state.maker.get();
            Check.same(where, Check.thrown(() -> call.accept(x)), exception);
            Map<String, String> story = Story.of(() -> after(state, call));
            for (String part : story.keySet()) {
                boolean same = story.get(part).equals(state.story.get(part));
                Check.same(where + ": nothing has changed: " + part, same, true);
            }
        }
    }

    private static Bench after(State state, Consumer<Bench> call) {
        Bench x = state.maker.get();
        Check.thrown(() -> call.accept(x));
        return x;
    }

    private static void illegalArgument(String what, Consumer<Bench> call) {
        refused(what, ARGUMENT, call, NEW, BUSY, FULL);
    }

    private static void illegalState(String what, Consumer<Bench> call) {
        refused(what, STATE, call, NEW, BUSY, FULL);
    }

    /** "illegal argument: a .. port .. is none" */
    private static void noPort() {
        for (int port : NO_PORTS) {
            illegalArgument("2: port(" + port + ") on", x -> x.port(port, true));
            illegalArgument("2: port(" + port + ") off", x -> x.port(port, false));
            illegalArgument("3: greeting, port " + port, x -> x.greeting(port, 2, true));
            illegalArgument("4: advert, port " + port, x -> x.advert(port, 2, 7, 9, 9));
            illegalArgument("5: thanks, port " + port, x -> x.thanks(port, 2, ITSELF, 1));
            illegalArgument("12: state, port " + port, x -> x.state(port, 2));
            illegalArgument("15: due, port " + port, x -> x.due(port, 2));
        }
    }

    /** "illegal argument: a router .. is none" */
    private static void noRouter() {
        for (int router : NO_ROUTERS) {
            illegalArgument("3: greeting, from " + router, x -> x.greeting(0, router, true));
            illegalArgument("4: advert, from " + router, x -> x.advert(0, router, 7, 9, 9));
            illegalArgument("4: advert, origin " + router, x -> x.advert(0, 2, router, 9, 9));
            illegalArgument("5: thanks, from " + router, x -> x.thanks(0, router, ITSELF, 1));
            illegalArgument("5: thanks, origin " + router, x -> x.thanks(0, 2, router, 1));
            illegalArgument("7: forget " + router, x -> x.forget(router));
            illegalArgument("12: state, router " + router, x -> x.state(0, router));
            illegalArgument("13: known " + router, x -> x.known(router));
            illegalArgument("14: body " + router, x -> x.body(router));
            illegalArgument("15: due, router " + router, x -> x.due(0, router));
        }
    }

    /** "also if number is not 1 .. 1000000000" */
    private static void noNumber() {
        for (int number : NO_NUMBERS) {
            illegalArgument("4: advert of a friend, number " + number, x -> x.advert(0, 2, 7, number, 9));
            illegalArgument("4: advert of no friend, number " + number, x -> x.advert(0, 19, 7, number, 9));
            illegalArgument("4: advert of itself, number " + number, x -> x.advert(0, 2, ITSELF, number, 9));
            illegalArgument("5: thanks of a friend, number " + number, x -> x.thanks(0, 2, ITSELF, number));
            illegalArgument("5: thanks of no friend, number " + number, x -> x.thanks(0, 19, ITSELF, number));
        }
    }

    /** "or the sender is itself" */
    private static void theSenderIsItself() {
        illegalArgument("3: greeting of itself", x -> x.greeting(0, ITSELF, true));
        illegalArgument("3: greeting of itself", x -> x.greeting(1, ITSELF, false));
        illegalArgument("4: advert from itself", x -> x.advert(0, ITSELF, 7, 9, 9));
        illegalArgument("4: its own from itself", x -> x.advert(0, ITSELF, ITSELF, 99, 9));
        illegalArgument("5: thanks from itself", x -> x.thanks(0, ITSELF, 7, 6));
        illegalArgument("5: thanks from itself for its own", x -> x.thanks(0, ITSELF, ITSELF, 1));
    }

    /** "illegal state: the port is off" */
    private static void thePortIsOff() {
        illegalState("3: greeting", x -> x.greeting(OFF, 2, true));
        illegalState("3: greeting, not naming", x -> x.greeting(OFF, 2, false));
        illegalState("4: advert", x -> x.advert(OFF, 2, 7, 99, 9));
        illegalState("4: advert of itself", x -> x.advert(OFF, 2, ITSELF, GREATEST, 9));
        illegalState("5: thanks", x -> x.thanks(OFF, 2, 7, 6));
        illegalState("5: thanks for its own", x -> x.thanks(OFF, 2, ITSELF, 1));
        for (int port = 0; port < 8; port++) {
            int off = port;
            refused("3: greeting on port " + off, STATE, x -> x.greeting(off, 2, true), NEW);
            refused("4: advert on port " + off, STATE, x -> x.advert(off, 2, 7, 9, 9), NEW);
            refused("5: thanks on port " + off, STATE, x -> x.thanks(off, 2, 7, 9), NEW);
        }
    }

    /** A port that was on, with a friend there, is off all the same. */
    private static void thePortWentOff() {
        State wentOff = new State("a port went off", () -> {
            Bench x = busyOne();
            x.port(0, false);
            return x;
        });
        refused("3: greeting", STATE, x -> x.greeting(0, 2, true), wentOff);
        refused("4: advert", STATE, x -> x.advert(0, 2, 7, 9, 9), wentOff);
        refused("5: thanks", STATE, x -> x.thanks(0, 2, ITSELF, 1), wentOff);
    }

    /** "Illegal argument: n is not 1 .. 2000" (for the illegal state see RangesTest) */
    private static void noRun() {
        for (int n : NO_RUNS) {
            illegalArgument("8: run(" + n + ")", x -> x.run(n));
        }
    }

    /** "Illegal argument: what is none of these" */
    private static void noPart() {
        for (int what : NO_PARTS) {
            illegalArgument("10: message(" + what + ")", x -> x.message(what));
        }
    }

    /** "illegal state: none was made" */
    private static void noneWasMade() {
        for (int part = 0; part < 6; part++) {
            int what = part;
            refused("10: message(" + what + ")", STATE, x -> x.message(what), NEW, FULL);
        }
    }

    /** "Of several exceptions the one named first is thrown" */
    private static void theOneNamedFirst() {
        illegalArgument("3: from is none, and off", x -> x.greeting(OFF, 64, true));
        illegalArgument("3: from is itself, and off", x -> x.greeting(OFF, ITSELF, true));
        illegalArgument("4: from is none, and off", x -> x.advert(OFF, -1, 7, 9, 9));
        illegalArgument("4: from is itself, and off", x -> x.advert(OFF, ITSELF, 7, 9, 9));
        illegalArgument("4: origin is none, and off", x -> x.advert(OFF, 2, 64, 9, 9));
        illegalArgument("4: number is 0, and off", x -> x.advert(OFF, 2, 7, 0, 9));
        illegalArgument("4: number is too great, and off", x -> x.advert(OFF, 2, 7, GREATEST + 1, 9));
        illegalArgument("5: from is none, and off", x -> x.thanks(OFF, -1, 7, 9));
        illegalArgument("5: from is itself, and off", x -> x.thanks(OFF, ITSELF, 7, 9));
        illegalArgument("5: origin is none, and off", x -> x.thanks(OFF, 2, 64, 9));
        illegalArgument("5: number is 0, and off", x -> x.thanks(OFF, 2, 7, 0));
        illegalArgument("5: number is too great, and off", x -> x.thanks(OFF, 2, 7, GREATEST + 1));
        refused("10: what is -1, and none was made", ARGUMENT, x -> x.message(-1), NEW, FULL);
        refused("10: what is 6, and none was made", ARGUMENT, x -> x.message(6), NEW, FULL);
    }

    /** Only as a sender itself is refused, and only greetings, adverts and thanks ask for a port that is on. */
    private static void itselfIsARouterToo() {
        Bench x = busyOne();
        Check.same("12: state of itself", x.state(0, ITSELF), 0);
        Check.same("12: state on a port that is off", x.state(OFF, 2), 0);
        Check.same("15: due to itself", x.due(0, ITSELF), 0);
        Check.same("15: due on a port that is off", x.due(OFF, 2), 0);
        Check.same("13: known of itself", x.known(ITSELF), 1);
        Check.same("14: body of itself", x.body(ITSELF), 5);
        Check.same("4: an advert of itself", x.advert(1, 3, ITSELF, 1, 9), 1);
        Check.same("5: thanks for that of itself", x.thanks(0, 2, ITSELF, 1), true);
        Check.same("7: forget that of itself", x.forget(ITSELF), true);
    }
}
