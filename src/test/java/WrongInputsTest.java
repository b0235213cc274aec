import java.util.ArrayList;
import java.util.List;

/** The exceptions of all promises, in the document's order; a call that throws changes nothing. */
public final class WrongInputsTest {
    private static final int ITSELF = 20;
    private static final int[] NO_PORTS = {-1, 8, 64, Integer.MAX_VALUE, Integer.MIN_VALUE};
    private static final int[] NO_ROUTERS = {-1, 64, 512, Integer.MAX_VALUE, Integer.MIN_VALUE};
    private static final int[] NO_NUMBERS = {0, -1, 1000000001, Integer.MAX_VALUE, Integer.MIN_VALUE};

    public static void main(String[] args) {
        wrongPorts(busy());
        wrongRouters(busy());
        wrongNumbers(busy());
        itselfAsSender(busy());
        offPorts(busy());
        illegalArgumentComesFirst(busy());
        itselfElsewhereIsFine(busy());
        callsThatThrowChangeNothing();
        Check.end("WrongInputsTest");
    }

    /** Port 0 and 1 are on, 2 is off; of all things to be sent there is something. */
    private static DeskBench busy() {
        DeskBench x = Check.withPorts(ITSELF, 2);
        x.greeting(0, 2, true);
        x.greeting(1, 3, true);
        x.greeting(1, 4, false);
        x.own(5);
        x.next();
        x.run(20);
        x.advert(1, 3, 7, 6, 66);
        return x;
    }

    private static void wrongPorts(DeskBench x) {
        for (int port : NO_PORTS) {
            Check.illegalArgument("2: port " + port, () -> x.port(port, true));
            Check.illegalArgument("2: port " + port, () -> x.port(port, false));
            Check.illegalArgument("3: port " + port, () -> x.greeting(port, 2, true));
            Check.illegalArgument("4: port " + port, () -> x.advert(port, 2, 7, 9, 9));
            Check.illegalArgument("5: port " + port, () -> x.thanks(port, 2, ITSELF, 1));
            Check.illegalArgument("12: port " + port, () -> x.state(port, 2));
            Check.illegalArgument("15: port " + port, () -> x.due(port, 2));
        }
    }

    private static void wrongRouters(DeskBench x) {
        for (int router : NO_ROUTERS) {
            Check.illegalArgument("3: from " + router, () -> x.greeting(0, router, true));
            Check.illegalArgument("4: from " + router, () -> x.advert(0, router, 7, 9, 9));
            Check.illegalArgument("4: origin " + router, () -> x.advert(0, 2, router, 9, 9));
            Check.illegalArgument("5: from " + router, () -> x.thanks(0, router, ITSELF, 1));
            Check.illegalArgument("5: origin " + router, () -> x.thanks(0, 2, router, 1));
            Check.illegalArgument("7: origin " + router, () -> x.forget(router));
            Check.illegalArgument("12: router " + router, () -> x.state(0, router));
            Check.illegalArgument("13: origin " + router, () -> x.known(router));
            Check.illegalArgument("14: origin " + router, () -> x.body(router));
            Check.illegalArgument("15: router " + router, () -> x.due(0, router));
        }
    }

    private static void wrongNumbers(DeskBench x) {
        for (int number : NO_NUMBERS) {
            Check.illegalArgument("4: number " + number, () -> x.advert(0, 2, 7, number, 9));
            Check.illegalArgument("4: of no friend " + number, () -> x.advert(0, 9, 7, number, 9));
            Check.illegalArgument("4: of its own " + number, () -> x.advert(0, 2, ITSELF, number, 9));
            Check.illegalArgument("5: number " + number, () -> x.thanks(0, 2, ITSELF, number));
            Check.illegalArgument("5: of no friend " + number, () -> x.thanks(0, 9, ITSELF, number));
        }
        int[] noRuns = {0, -1, 2001, Integer.MAX_VALUE, Integer.MIN_VALUE};
        for (int n : noRuns) {
            Check.illegalArgument("8: run(" + n + ")", () -> x.run(n));
        }
        int[] noParts = {-1, 6, Integer.MAX_VALUE, Integer.MIN_VALUE};
        for (int what : noParts) {
            Check.illegalArgument("10: message(" + what + ")", () -> x.message(what));
        }
    }

    private static void itselfAsSender(DeskBench x) {
        Check.illegalArgument("3: itself", () -> x.greeting(0, ITSELF, true));
        Check.illegalArgument("4: itself", () -> x.advert(0, ITSELF, 7, 9, 9));
        Check.illegalArgument("5: itself", () -> x.thanks(0, ITSELF, 7, 6));
    }

    private static void offPorts(DeskBench x) {
        Check.illegalState("3: off", () -> x.greeting(2, 2, true));
        Check.illegalState("4: off", () -> x.advert(2, 2, 7, 9, 9));
        Check.illegalState("5: off", () -> x.thanks(2, 2, 7, 6));
        Check.same("12: off is fine here", x.state(2, 2), 0);
        Check.same("15: off is fine here", x.due(2, 2), 0);
    }

    private static void illegalArgumentComesFirst(DeskBench x) {
        Check.illegalArgument("3: from, and off", () -> x.greeting(2, 64, true));
        Check.illegalArgument("3: itself, and off", () -> x.greeting(2, ITSELF, true));
        Check.illegalArgument("4: from, and off", () -> x.advert(2, -1, 7, 9, 9));
        Check.illegalArgument("4: itself, and off", () -> x.advert(2, ITSELF, 7, 9, 9));
        Check.illegalArgument("4: origin, and off", () -> x.advert(2, 2, 64, 9, 9));
        Check.illegalArgument("4: number, and off", () -> x.advert(2, 2, 7, 0, 9));
        Check.illegalArgument("5: from, and off", () -> x.thanks(2, -1, 7, 9));
        Check.illegalArgument("5: itself, and off", () -> x.thanks(2, ITSELF, 7, 9));
        Check.illegalArgument("5: origin, and off", () -> x.thanks(2, 2, 64, 9));
        Check.illegalArgument("5: number, and off", () -> x.thanks(2, 2, 7, 1000000001));
        DeskBench unused = new DeskBench(0);
        Check.illegalArgument("10: what, and none was made", () -> unused.message(6));
        Check.illegalArgument("10: what, and none was made", () -> unused.message(-1));
    }

    private static void itselfElsewhereIsFine(DeskBench x) {
        Check.same("12: state of itself", x.state(0, ITSELF), 0);
        Check.same("15: due to itself", x.due(0, ITSELF), 0);
        Check.same("13: known of itself", x.known(ITSELF), 1);
        Check.same("14: body of itself", x.body(ITSELF), 5);
        Check.same("5: thanks for that of itself", x.thanks(0, 2, ITSELF, 1), true);
        Check.same("7: forget that of itself", x.forget(ITSELF), true);
    }

    private static void callsThatThrowChangeNothing() {
        DeskBench untouched = busy();
        DeskBench touched = busy();
        wrongPorts(touched);
        wrongRouters(touched);
        wrongNumbers(touched);
        itselfAsSender(touched);
        offPorts(touched);
        illegalArgumentComesFirst(touched);
        Check.same("a call that throws changes nothing", story(touched), story(untouched));
    }

    /** All that can be seen of an object now and through some time to come. */
    private static String story(DeskBench x) {
        List<String> seen = new ArrayList<>();
        look(x, seen);
        for (int step = 0; step < 12; step++) {
            while (x.next()) {
                seen.add(Check.lastMessage(x));
            }
            seen.add("run " + x.run(9));
            look(x, seen);
        }
        seen.add("own " + x.own(1));
        return seen.toString();
    }

    private static void look(DeskBench x, List<String> seen) {
        seen.add(x.time() + " " + x.count(false) + " " + x.count(true) + " " + Check.lastMessage(x));
        for (int router = 0; router < 64; router++) {
            seen.add(x.known(router) + " " + x.body(router));
            for (int port = 0; port < 8; port++) {
                seen.add(x.state(port, router) + " " + x.due(port, router));
            }
        }
    }
}
