/**
 * What has a least and a greatest value (routers, ports, numbers, bodies, ticks, time, parts of a
 * message): the last ones inside, and the first ones outside. Each method quotes its sentence.
 */
public final class RangesTest {
    private static final int ITSELF = 30;
    private static final int GREATEST = 1000000000;
    private static final int END = 1000000;

    public static void main(String[] args) {
        routers();
        itselfIsThatRouter();
        itselfIs0IfItIsNone();
        itselfAt0AndAt63();
        ports();
        portsAreOffAtFirst();
        nothingIsKnownAtFirst();
        timeIs0AtFirst();
        numbersOfAdverts();
        numbersOfThanks();
        bodies();
        ticks();
        timeGoesTo1000000();
        timeGoesNoFurther();
        aRefusedRunMakesNoGreeting();
        aRefusedRunLeavesFriends();
        aRefusedRunSendsNothingAgain();
        parts();
        Check.end("RangesTest");
    }

    /** "ROUTERS are 0 .. 63" */
    private static void routers() {
        for (int router : new int[] {0, 63}) {
            int other = 63 - router;
            Bench x = Check.withPorts(ITSELF, 1);
            Check.same("3: greeting, from " + router, x.greeting(0, router, true), 2);
            Check.same("12: state of " + router, x.state(0, router), 2);
            x.greeting(0, other, true);
            Check.same("4: advert, from and origin " + router, x.advert(0, router, router, 4, 44), 0);
            Check.same("13: known of " + router, x.known(router), 4);
            Check.same("14: body of " + router, x.body(router), 44);
            Check.same("15: due to " + router, x.due(0, router), 0);
            Check.same("15: due to " + other, x.due(0, other), 1);
            Check.same("5: thanks, origin " + router, x.thanks(0, other, router, 4), true);
            x.own(5);
            Check.same("5: thanks, from " + router, x.thanks(0, router, ITSELF, 1), true);
            Check.same("7: forget " + router, x.forget(router), true);
        }
        Bench x = Check.withPorts(ITSELF, 1);
        x.greeting(0, 1, true);
        for (int router : new int[] {-1, 64}) {
            Check.illegalArgument("3: greeting, from " + router, () -> x.greeting(0, router, true));
            Check.illegalArgument("4: advert, from " + router, () -> x.advert(0, router, 1, 1, 1));
            Check.illegalArgument("4: advert, origin " + router, () -> x.advert(0, 1, router, 1, 1));
            Check.illegalArgument("5: thanks, from " + router, () -> x.thanks(0, router, 1, 1));
            Check.illegalArgument("5: thanks, origin " + router, () -> x.thanks(0, 1, router, 1));
            Check.illegalArgument("7: forget " + router, () -> x.forget(router));
            Check.illegalArgument("12: state of " + router, () -> x.state(0, router));
            Check.illegalArgument("13: known of " + router, () -> x.known(router));
            Check.illegalArgument("14: body of " + router, () -> x.body(router));
            Check.illegalArgument("15: due to " + router, () -> x.due(0, router));
        }
    }

    /** "Itself is that router" */
    private static void itselfIsThatRouter() {
        for (int router = 0; router < 64; router++) {
            looksAtItself(router, router);
        }
    }

    /** "(0, if it is none)" */
    private static void itselfIs0IfItIsNone() {
        for (int none : new int[] {-1, 64, 65, -64, 128, Integer.MAX_VALUE, Integer.MIN_VALUE}) {
            looksAtItself(none, 0);
        }
    }

    private static void looksAtItself(int given, int itself) {
        Bench x = Check.withPorts(given, 1);
        Check.illegalArgument("1: " + given + ": itself sends no greeting", () -> x.greeting(0, itself, true));
        Check.same("1: " + given + ": another one does", x.greeting(0, (itself + 1) % 64, true), 2);
        x.own(9);
        for (int router = 0; router < 64; router++) {
            int number = router == itself ? 1 : DeskBench.NONE;
            Check.same("1: " + given + ": whose advert is its own", x.known(router), number);
        }
    }

    /** The least and the greatest router as itself: its own advert goes out, and comes back. */
    private static void itselfAt0AndAt63() {
        for (int itself : new int[] {0, 63}) {
            Bench x = Check.withPorts(itself, 1);
            x.greeting(0, 5, true);
            x.own(9);
            Check.sendsAdvert("1: its own", x, 0, 5, itself, 1, 9);
            Check.same("4: it comes back", x.advert(0, 5, itself, 1, 9), 1);
            Check.same("4: a greater one comes back", x.advert(0, 5, itself, 2, 9), 3);
            Check.same("6: its own", x.own(9), 3);
        }
    }

    /** "PORTS are 0 .. 7" */
    private static void ports() {
        for (int port : new int[] {0, 7}) {
            Bench x = new Bench(ITSELF);
            Check.same("2: port " + port, x.port(port, true), true);
            Check.same("3: greeting, port " + port, x.greeting(port, 1, true), 2);
            Check.same("12: state, port " + port, x.state(port, 1), 2);
            x.own(9);
            Check.same("15: due, port " + port, x.due(port, 1), 1);
            Check.same("5: thanks, port " + port, x.thanks(port, 1, ITSELF, 1), true);
            Check.same("15: due no more, port " + port, x.due(port, 1), 0);
            Check.same("4: advert, port " + port, x.advert(port, 1, 2, 3, 9), 0);
            Check.sendsThanks("9: thanks, port " + port, x, port, 1, 2, 3);
            Check.same("2: port " + port, x.port(port, false), true);
        }
        Bench x = new Bench(ITSELF);
        for (int port : new int[] {-1, 8}) {
            Check.illegalArgument("2: port " + port, () -> x.port(port, true));
            Check.illegalArgument("3: greeting, port " + port, () -> x.greeting(port, 1, true));
            Check.illegalArgument("4: advert, port " + port, () -> x.advert(port, 1, 1, 1, 1));
            Check.illegalArgument("5: thanks, port " + port, () -> x.thanks(port, 1, 1, 1));
            Check.illegalArgument("12: state, port " + port, () -> x.state(port, 1));
            Check.illegalArgument("15: due, port " + port, () -> x.due(port, 1));
        }
    }

    /** "each ON or OFF (at first)", "all ports are off", "whether that is another thing than before" */
    private static void portsAreOffAtFirst() {
        for (int port = 0; port < 8; port++) {
            int p = port;
            Bench x = new Bench(ITSELF);
            Check.illegalState("1: off at first", () -> x.greeting(p, 1, true));
            Check.same("2: off while it is off", x.port(p, false), false);
            Check.illegalState("2: off still", () -> x.greeting(p, 1, true));
            Check.same("2: on", x.port(p, true), true);
            Check.same("2: on while it is on", x.port(p, true), false);
            Check.same("2: on still", x.greeting(p, 1, true), 2);
            Check.same("2: off", x.port(p, false), true);
            Check.same("2: off while it is off", x.port(p, false), false);
            Check.illegalState("2: off", () -> x.greeting(p, 1, true));
            for (int other = 0; other < 8; other++) {
                Check.same("2: another port is as it was", x.port(other, false), false);
            }
        }
    }

    /** "nothing is known" */
    private static void nothingIsKnownAtFirst() {
        Bench x = Check.withPorts(ITSELF, 1);
        for (int origin = 0; origin < 64; origin++) {
            Check.same("1: known", x.known(origin), DeskBench.NONE);
            Check.same("1: body", x.body(origin), 0);
            Check.same("1: forget", x.forget(origin), false);
        }
        x.greeting(0, 1, true);
        Check.same("1: nothing is due", x.due(0, 1), 0);
        Check.sendsNothing("1: nothing is to be sent", x);
    }

    /** "TIME is counted in ticks, at first 0" */
    private static void timeIs0AtFirst() {
        Check.same("17: time", new Bench(ITSELF).time(), 0);
        Check.same("8: the first tick", new Bench(ITSELF).run(1), 1);
    }

    /** Promise 4: "also if number is not 1 .. 1000000000" */
    private static void numbersOfAdverts() {
        Bench x = Check.withPorts(ITSELF, 1);
        x.greeting(0, 1, true);
        Check.illegalArgument("4: number 0", () -> x.advert(0, 1, 9, 0, 5));
        Check.same("4: number 1", x.advert(0, 1, 9, 1, 5), 0);
        Check.same("13: number 1", x.known(9), 1);
        Check.same("4: number 1000000000", x.advert(0, 1, 9, GREATEST, 6), 0);
        Check.same("13: number 1000000000", x.known(9), GREATEST);
        Check.illegalArgument("4: number 1000000001", () -> x.advert(0, 1, 9, GREATEST + 1, 7));
        Check.same("13: it stays", x.known(9), GREATEST);
        Check.same("4: the same", x.advert(0, 1, 9, GREATEST, 6), 1);
        Check.same("4: 1 less", x.advert(0, 1, 9, GREATEST - 1, 6), 2);
        Check.same("4: the least of its own", x.advert(0, 1, ITSELF, 1, 6), 3);
        Check.same("4: the greatest of its own", x.advert(0, 1, ITSELF, GREATEST, 6), 3);
        Check.illegalArgument("4: one more of its own", () -> x.advert(0, 1, ITSELF, GREATEST + 1, 6));
        Check.same("6: its own goes on all the same", x.own(1), GREATEST + 1);
    }

    /** Promise 5: "also if number is not 1 .. 1000000000" */
    private static void numbersOfThanks() {
        Bench x = Check.withPorts(ITSELF, 1);
        x.greeting(0, 1, true);
        x.greeting(0, 2, true);
        x.advert(0, 1, 9, 1, 5);
        x.advert(0, 1, 10, GREATEST, 5);
        Check.illegalArgument("5: number 0", () -> x.thanks(0, 2, 9, 0));
        Check.illegalArgument("5: number 0, not known", () -> x.thanks(0, 2, 11, 0));
        Check.illegalArgument("5: number 1000000001", () -> x.thanks(0, 2, 10, GREATEST + 1));
        Check.same("15: both are due", x.due(0, 2), 2);
        Check.same("5: number 1", x.thanks(0, 2, 9, 1), true);
        Check.same("5: number 1000000000", x.thanks(0, 2, 10, GREATEST), true);
        Check.same("15: none is due", x.due(0, 2), 0);
    }

    /** "with a NUMBER, 1 or more, and a BODY, an int" */
    private static void bodies() {
        for (int body : new int[] {Integer.MIN_VALUE, -1, 0, 1, Integer.MAX_VALUE}) {
            Bench x = Check.withPorts(ITSELF, 1);
            x.greeting(0, 1, true);
            x.greeting(0, 2, true);
            Check.same("6: own, body " + body, x.own(body), 1);
            Check.same("14: its own", x.body(ITSELF), body);
            Check.same("4: advert, body " + body, x.advert(0, 1, 9, 3, body), 0);
            Check.same("14: another one", x.body(9), body);
            Check.same("13: it is known", x.known(9), 3);
            Check.sendsThanks("10: a thanks has the body 0", x, 0, 1, 9, 3);
            Check.sendsAdvert("10: its own", x, 0, 1, ITSELF, 1, body);
            Check.sendsAdvert("10: another one", x, 0, 2, 9, 3, body);
        }
    }

    /** "Illegal argument: n is not 1 .. 2000" */
    private static void ticks() {
        Bench x = new Bench(ITSELF);
        Check.illegalArgument("8: run(0)", () -> x.run(0));
        Check.illegalArgument("8: run(-1)", () -> x.run(-1));
        Check.illegalArgument("8: run(2001)", () -> x.run(2001));
        Check.same("17: no time has gone by", x.time(), 0);
        Check.same("8: run(1)", x.run(1), 1);
        Check.same("17: time", x.time(), 1);
        Check.same("8: run(2000)", x.run(2000), 2001);
        Check.same("17: time", x.time(), 2001);
    }

    /** An object at this time; it takes up to 500 of the 512 calls. */
    private static void runTo(Bench x, int time) {
        for (int now = 0; now < time; now += 2000) {
            x.run(Math.min(2000, time - now));
        }
    }

    /** "to 1000000" */
    private static void timeGoesTo1000000() {
        Bench x = new Bench(ITSELF);
        runTo(x, END - 2000);
        Check.same("8: to 1000000 in one run", x.run(2000), END);
        Check.same("17: time", x.time(), END);
        Bench y = new Bench(ITSELF);
        runTo(y, END - 1);
        Check.same("17: time", y.time(), END - 1);
        Check.same("8: the last tick", y.run(1), END);
        Check.same("17: time", y.time(), END);
        Bench z = Check.withPorts(ITSELF, 1);
        runTo(z, END - 1);
        Check.same("9: the greeting of 999980", z.next(), true);
        Check.same("9: no other", z.next(), false);
        z.run(1);
        Check.same("9: the greeting of 1000000", z.next(), true);
        Check.same("10: a greeting", z.message(0), 1);
    }

    /** "illegal state: it would be more than 1000000" */
    private static void timeGoesNoFurther() {
        Bench x = new Bench(ITSELF);
        runTo(x, END);
        Check.illegalState("8: run(1) at 1000000", () -> x.run(1));
        Check.illegalState("8: run(2000) at 1000000", () -> x.run(2000));
        Check.illegalArgument("8: run(2001) at 1000000: the one named first", () -> x.run(2001));
        Check.illegalArgument("8: run(0) at 1000000", () -> x.run(0));
        Check.same("17: time", x.time(), END);
        Bench y = new Bench(ITSELF);
        runTo(y, END - 1);
        Check.illegalState("8: run(2) at 999999", () -> y.run(2));
        Check.illegalState("8: run(2000) at 999999", () -> y.run(2000));
        Check.same("17: time", y.time(), END - 1);
        Check.same("8: run(1) at 999999", y.run(1), END);
        Bench z = new Bench(ITSELF);
        runTo(z, END - 1999);
        Check.illegalState("8: run(2000) at 998001", () -> z.run(2000));
        Check.same("17: time", z.time(), END - 1999);
        Check.same("8: run(1999) at 998001", z.run(1999), END);
    }

    /** "a call that throws changes nothing": the greetings that are to be sent */
    private static void aRefusedRunMakesNoGreeting() {
        Bench x = Check.withPorts(ITSELF, 1);
        runTo(x, END - 10);
        Check.same("9: the greeting of 999980", x.next(), true);
        Check.illegalState("8: past 1000000", () -> x.run(11));
        Check.same("8: it has made no greeting", x.next(), false);
        Check.same("8: to 1000000", x.run(10), END);
        Check.same("8: that has made one", x.next(), true);
    }

    /** "a call that throws changes nothing": who is heard */
    private static void aRefusedRunLeavesFriends() {
        Bench x = new Bench(ITSELF);
        runTo(x, END - 79);
        x.port(0, true);
        x.greeting(0, 1, true);
        Check.illegalState("8: 80 ticks, past 1000000", () -> x.run(80));
        Check.illegalState("8: 2000 ticks, past 1000000", () -> x.run(2000));
        Check.same("8: the friend is one still", x.state(0, 1), 2);
        Check.same("8: 79 ticks", x.run(79), END);
        Check.same("8: and still", x.state(0, 1), 2);
    }

    /** "a call that throws changes nothing": what is to be sent again */
    private static void aRefusedRunSendsNothingAgain() {
        Bench x = new Bench(ITSELF);
        runTo(x, END - 15);
        x.port(0, true);
        x.greeting(0, 1, true);
        x.own(9);
        Check.same("9: it is sent", x.next(), true);
        Check.illegalState("8: past 1000000", () -> x.run(16));
        Check.same("8: not again", x.next(), false);
        x.run(15);
        Check.same("8: now the greeting", x.next(), true);
        Check.same("8: and it again", x.next(), true);
        Check.same("10: an advert", x.message(0), 3);
    }

    /** "what = 0 .. 5: the body", "Illegal argument: what is none of these" */
    private static void parts() {
        Bench x = Check.withPorts(ITSELF, 1);
        x.greeting(0, 1, true);
        x.own(77);
        x.next();
        Check.illegalArgument("10: message(-1)", () -> x.message(-1));
        Check.same("10: message(0)", x.message(0), 3);
        Check.same("10: message(1)", x.message(1), 0);
        Check.same("10: message(2)", x.message(2), 1);
        Check.same("10: message(3)", x.message(3), ITSELF);
        Check.same("10: message(4)", x.message(4), 1);
        Check.same("10: message(5)", x.message(5), 77);
        Check.illegalArgument("10: message(6)", () -> x.message(6));
    }
}
