/**
 * Who is heard and who is a friend: the first and the last tick, none and 16 of them. Each method
 * quotes its sentence of the document.
 */
public final class HeardEdgesTest {
    private static final int ITSELF = 1;

    public static void main(String[] args) {
        fromTheFirstGreeting();
        until80TicksHaveGoneBy();
        until80TicksHaveGoneByTickByTick();
        withoutAFurtherOne();
        onlyAGreetingOfItThereIsAFurtherOne();
        afterThatAGreetingIsAFirstOne();
        orThePortGoesOff();
        aPortThatStaysOnLosesNobody();
        aFriendWhileTheLastGreetingNamed();
        noneIsHeard();
        at15ThereIsRoomForOne();
        oneOnSeveralPortsCountsSoOften();
        greetingsOfMoreCountForNothing();
        theSixteenAreHeardOn();
        roomAfter80Ticks();
        roomAfterThePortGoesOff();
        roomForTheLeastAndTheGreatest();
        Check.end("HeardEdgesTest");
    }

    /** "from the first greeting of it that comes there" */
    private static void fromTheFirstGreeting() {
        Bench x = Check.withPorts(ITSELF, 2);
        Check.same("12: before it", x.state(0, 2), 0);
        Check.same("4: an advert before it", x.advert(0, 2, 2, 1, 1), DeskBench.NONE);
        Check.same("5: thanks before it", x.thanks(0, 2, 2, 1), false);
        Check.same("12: these are no greetings", x.state(0, 2), 0);
        Check.same("16: none", x.count(false), 0);
        Check.same("3: the first", x.greeting(0, 2, false), 1);
        Check.same("12: from then on", x.state(0, 2), 1);
        Check.same("12: not on another port", x.state(1, 2), 0);
        Check.same("12: not another router", x.state(0, 3), 0);
        Check.same("16: one", x.count(false), 1);
        Check.same("16: no friend", x.count(true), 0);
    }

    /** "until 80 ticks have gone by" */
    private static void until80TicksHaveGoneBy() {
        for (int start : new int[] {0, 1, 19, 20, 33, 80, 1999}) {
            for (int ticks : new int[] {1, 78, 79, 80, 81, 160, 2000}) {
                Bench x = Check.withPorts(ITSELF, 1);
                if (start > 0) {
                    x.run(start);
                }
                x.greeting(0, 2, false);
                x.greeting(0, 3, true);
                x.run(ticks);
                boolean stays = ticks < 80;
                String when = "greeted at " + start + ", " + ticks + " ticks later";
                Check.same("12: one that is heard, " + when, x.state(0, 2), stays ? 1 : 0);
                Check.same("12: a friend, " + when, x.state(0, 3), stays ? 2 : 0);
                Check.same("16: heard, " + when, x.count(false), stays ? 2 : 0);
                Check.same("16: friends, " + when, x.count(true), stays ? 1 : 0);
            }
        }
    }

    private static void until80TicksHaveGoneByTickByTick() {
        Bench x = Check.withPorts(ITSELF, 1);
        x.greeting(0, 2, true);
        for (int tick = 1; tick <= 100; tick++) {
            x.run(1);
            Check.same("12: at tick " + tick, x.state(0, 2), tick < 80 ? 2 : 0);
        }
    }

    /** "without a further one" */
    private static void withoutAFurtherOne() {
        for (boolean names : new boolean[] {true, false}) {
            int stands = names ? 2 : 1;
            Bench x = Check.withPorts(ITSELF, 1);
            x.greeting(0, 2, !names);
            x.run(79);
            Check.same("3: a further one at the last tick", x.greeting(0, 2, names), stands);
            x.run(1);
            Check.same("12: the 80th of the first counts no more", x.state(0, 2), stands);
            x.run(78);
            Check.same("12: 79 of the further one", x.state(0, 2), stands);
            x.run(1);
            Check.same("12: 80 of the further one", x.state(0, 2), 0);
        }
        Bench x = Check.withPorts(ITSELF, 1);
        x.greeting(0, 2, true);
        for (int i = 0; i < 20; i++) {
            x.run(79);
            Check.same("3: again and again", x.greeting(0, 2, true), 2);
        }
    }

    private static void onlyAGreetingOfItThereIsAFurtherOne() {
        Bench x = Check.withPorts(ITSELF, 2);
        x.own(5);
        x.greeting(0, 2, true);
        x.run(79);
        Check.same("4: an advert", x.advert(0, 2, 7, 1, 1), 0);
        Check.same("5: thanks", x.thanks(0, 2, ITSELF, 1), true);
        Check.same("3: another router", x.greeting(0, 3, true), 2);
        Check.same("3: another port", x.greeting(1, 2, true), 2);
        Check.same("2: on while it is on", x.port(0, true), false);
        x.run(1);
        Check.same("12: none of these is one", x.state(0, 2), 0);
        Check.same("12: another router", x.state(0, 3), 2);
        Check.same("12: another port", x.state(1, 2), 2);
    }

    private static void afterThatAGreetingIsAFirstOne() {
        Bench x = Check.withPorts(ITSELF, 1);
        x.own(5);
        x.greeting(0, 2, true);
        Check.same("5: thanks", x.thanks(0, 2, ITSELF, 1), true);
        x.run(80);
        Check.same("3: it is heard only", x.greeting(0, 2, false), 1);
        x.run(79);
        Check.same("12: for 80 ticks more", x.state(0, 2), 1);
        x.run(1);
        Check.same("12: and no longer", x.state(0, 2), 0);
        Check.same("3: it becomes a friend", x.greeting(0, 2, true), 2);
        Check.same("15: so all is due anew", x.due(0, 2), 1);
    }

    /** "or the port goes off" */
    private static void orThePortGoesOff() {
        for (int off = 0; off < 8; off++) {
            Bench x = Check.withPorts(ITSELF, 8);
            x.own(5);
            for (int port = 0; port < 8; port++) {
                x.greeting(port, 2, true);
                x.greeting(port, 3, false);
            }
            x.port(off, false);
            for (int port = 0; port < 8; port++) {
                boolean stays = port != off;
                Check.same("2: a friend on port " + port, x.state(port, 2), stays ? 2 : 0);
                Check.same("2: one heard on port " + port, x.state(port, 3), stays ? 1 : 0);
                Check.same("15: due on port " + port, x.due(port, 2), stays ? 1 : 0);
            }
            Check.same("16: heard", x.count(false), 14);
            Check.same("16: friends", x.count(true), 7);
            x.port(off, true);
            Check.same("2: on again, and nobody is heard", x.state(off, 2) + x.state(off, 3), 0);
            Check.same("2: nothing is due", x.due(off, 2), 0);
            Check.same("16: heard", x.count(false), 14);
        }
    }

    private static void aPortThatStaysOnLosesNobody() {
        Bench x = Check.withPorts(ITSELF, 2);
        x.own(5);
        x.greeting(0, 2, true);
        x.greeting(0, 3, false);
        Check.same("2: on while it is on", x.port(0, true), false);
        Check.same("2: another one, off while it is off", x.port(7, false), false);
        Check.same("2: another one goes off", x.port(1, false), true);
        Check.same("12: the friend", x.state(0, 2), 2);
        Check.same("12: the one that is heard", x.state(0, 3), 1);
        Check.same("15: due", x.due(0, 2), 1);
    }

    /** "while it is heard and the last greeting that came of it there named itself" */
    private static void aFriendWhileTheLastGreetingNamed() {
        Bench x = Check.withPorts(ITSELF, 2);
        boolean[] names = {true, true, false, false, true, false, true};
        for (boolean one : names) {
            Check.same("3: the last greeting counts", x.greeting(0, 2, one), one ? 2 : 1);
            Check.same("12: the last greeting counts", x.state(0, 2), one ? 2 : 1);
            Check.same("16: it is heard once", x.count(false), 1);
            Check.same("16: friends", x.count(true), one ? 1 : 0);
        }
        x.greeting(0, 3, false);
        x.greeting(1, 2, false);
        Check.same("12: of it, and there", x.state(0, 2), 2);
    }

    /** How many are heard: none */
    private static void noneIsHeard() {
        Bench x = Check.withPorts(ITSELF, 8);
        Check.same("16: none is heard", x.count(false), 0);
        Check.same("16: none is a friend", x.count(true), 0);
        x.greeting(0, 2, false);
        Check.same("16: one is heard", x.count(false), 1);
        Check.same("16: none is a friend", x.count(true), 0);
        x.run(80);
        Check.same("16: none is heard", x.count(false), 0);
    }

    /** Sixteen friends, all on port 0. */
    private static Bench sixteenOnOnePort() {
        Bench x = Check.withPorts(ITSELF, 2);
        for (int router = 10; router < 26; router++) {
            x.greeting(0, router, true);
        }
        return x;
    }

    /** "At most 16 are heard" */
    private static void at15ThereIsRoomForOne() {
        for (int ports = 1; ports <= 8; ports++) {
            for (boolean names : new boolean[] {true, false}) {
                int stands = names ? 2 : 1;
                Bench x = Check.withPorts(ITSELF, ports);
                for (int i = 0; i < 15; i++) {
                    Check.same("3: the first 15", x.greeting(i % ports, 10 + i, names), stands);
                }
                Check.same("16: 15", x.count(false), 15);
                Check.same("3: the 16th", x.greeting(ports - 1, 40, names), stands);
                Check.same("16: 16", x.count(false), 16);
                Check.same("16: friends", x.count(true), names ? 16 : 0);
                Check.same("3: the 17th", x.greeting(0, 41, names), 0);
                Check.same("3: the 17th, on the last port", x.greeting(ports - 1, 42, !names), 0);
                Check.same("16: 16 still", x.count(false), 16);
                Check.same("16: friends still", x.count(true), names ? 16 : 0);
            }
        }
    }

    /** "one on several ports counting so often" */
    private static void oneOnSeveralPortsCountsSoOften() {
        Bench x = Check.withPorts(ITSELF, 8);
        for (int i = 0; i < 16; i++) {
            Check.same("16: before", x.count(false), i);
            Check.same("3: two routers on eight ports", x.greeting(i % 8, 2 + i / 8, true), 2);
        }
        Check.same("16: 16", x.count(false), 16);
        Check.same("16: 16 friends", x.count(true), 16);
        for (int port = 0; port < 8; port++) {
            Check.same("3: a third router", x.greeting(port, 4, true), 0);
        }
        Check.same("3: one of the 16 stays one", x.greeting(7, 3, true), 2);
        Bench y = sixteenOnOnePort();
        Check.same("3: one that is heard on another port alone", y.greeting(1, 10, true), 0);
        Check.same("12: is not heard here", y.state(1, 10), 0);
        Check.same("12: but there", y.state(0, 10), 2);
    }

    /** "greetings of more count for nothing", and promise 3: "0: it counts for nothing" */
    private static void greetingsOfMoreCountForNothing() {
        Bench x = sixteenOnOnePort();
        x.own(5);
        Check.same("3: the 17th, naming", x.greeting(0, 40, true), 0);
        Check.same("3: the 17th, not naming", x.greeting(0, 40, false), 0);
        Check.same("12: is not heard", x.state(0, 40), 0);
        Check.same("15: nothing is due", x.due(0, 40), 0);
        Check.same("4: its adverts are of no friend", x.advert(0, 40, 7, 1, 1), DeskBench.NONE);
        Check.same("5: its thanks are for nothing", x.thanks(0, 40, ITSELF, 1), false);
        Check.same("16: 16", x.count(false), 16);
        for (int router = 10; router < 26; router++) {
            Check.same("12: the 16 stay", x.state(0, router), 2);
            Check.same("15: what is due to them stays", x.due(0, router), 1);
        }
        x.run(79);
        Check.same("3: the 17th again", x.greeting(0, 40, true), 0);
        Check.sendsGreeting("11: it is not named", x, 0, ((1L << 16) - 1) << 10);
        x.run(1);
        Check.same("16: it has made nobody be heard longer", x.count(false), 0);
        Check.same("12: nor been heard since", x.state(0, 40), 0);
    }

    /** The 16 that are heard go on to be so: their greetings are not "of more". */
    private static void theSixteenAreHeardOn() {
        Bench x = sixteenOnOnePort();
        x.run(79);
        for (int router = 10; router < 26; router++) {
            Check.same("3: of one of the 16", x.greeting(0, router, router % 2 == 0), router % 2 == 0 ? 2 : 1);
        }
        Check.same("3: one that is no friend leaves no room", x.greeting(0, 40, true), 0);
        x.run(79);
        Check.same("16: all", x.count(false), 16);
        Check.same("16: friends", x.count(true), 8);
        x.run(1);
        Check.same("16: none", x.count(false), 0);
    }

    /** Full, and after 80 ticks empty again: all 16 places, and no more. */
    private static void roomAfter80Ticks() {
        Bench x = sixteenOnOnePort();
        x.run(79);
        Check.same("3: no room yet", x.greeting(0, 40, true), 0);
        x.greeting(0, 13, true);
        x.run(1);
        Check.same("16: one is left", x.count(false), 1);
        for (int router = 40; router < 55; router++) {
            Check.same("3: room for 15", x.greeting(1, router, true), 2);
        }
        Check.same("3: no room for 16", x.greeting(1, 55, true), 0);
        Check.same("12: the one that is left", x.state(0, 13), 2);
        Check.same("16: 16", x.count(false), 16);
    }

    /** Full, and as many places as a port had when it goes off. */
    private static void roomAfterThePortGoesOff() {
        Bench x = Check.withPorts(ITSELF, 3);
        for (int i = 0; i < 16; i++) {
            x.greeting(i < 3 ? 2 : i % 2, 10 + i, true);
        }
        Check.same("3: no room", x.greeting(0, 40, true), 0);
        x.port(2, false);
        Check.same("16: 13", x.count(false), 13);
        for (int router = 40; router < 43; router++) {
            Check.same("3: room for three", x.greeting(1, router, false), 1);
        }
        Check.same("3: no room for a fourth", x.greeting(1, 43, false), 0);
        Check.same("16: 16", x.count(false), 16);
    }

    /** Full, whichever routers and ports they are. */
    private static void roomForTheLeastAndTheGreatest() {
        Bench x = Check.withPorts(ITSELF, 8);
        for (int port = 0; port < 8; port++) {
            x.greeting(port, 0, true);
            x.greeting(port, 63, true);
        }
        for (int port = 0; port < 8; port++) {
            Check.same("12: the least", x.state(port, 0), 2);
            Check.same("12: the greatest", x.state(port, 63), 2);
            Check.same("3: more", x.greeting(port, 32, true), 0);
        }
        Check.same("16: 16", x.count(true), 16);
    }
}
