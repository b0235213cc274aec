/** Promises 1, 2, 3, 8, 12, 16 and 17: ports, who is heard, who is a friend, and the time. */
public final class HearingTest {
    public static void main(String[] args) {
        newObject();
        itselfIsARouterOr0();
        portsGoOnAndOff();
        greetingsMakeHeardAndFriends();
        friendshipFollowsTheLastGreeting();
        heardFor80Ticks();
        friendsAreLostAfter80Ticks();
        aPortThatGoesOffIsHeardNoMore();
        oneRouterOnSeveralPorts();
        atMost16AreHeard();
        aSeventeenthCountsForNothingButThe16GoOn();
        runTellsTheTime();
        edgesOfRoutersAndPorts();
        Check.end("HearingTest");
    }

    private static void newObject() {
        Bench x = new Bench(5);
        Check.same("1: time", x.time(), 0);
        Check.same("1: heard", x.count(false), 0);
        Check.same("1: friends", x.count(true), 0);
        Check.same("1: named", x.named(), 0L);
        Check.same("1: next", x.next(), false);
        Check.illegalState("1: message", () -> x.message(0));
        for (int router = 0; router < 64; router++) {
            Check.same("1: known", x.known(router), DeskBench.NONE);
            Check.same("1: body", x.body(router), 0);
        }
        Check.same("1: NONE", DeskBench.NONE, -1);
        for (int port = 0; port < 8; port++) {
            newObjectOnPort(new Bench(5), port);
        }
    }

    private static void newObjectOnPort(Bench x, int port) {
        for (int router = 0; router < 64; router++) {
            Check.same("1: state", x.state(port, router), 0);
            Check.same("1: due", x.due(port, router), 0);
        }
        Check.illegalState("1: all ports are off", () -> x.greeting(port, 1, true));
        Check.same("1: off is no other thing", x.port(port, false), false);
    }

    private static void itselfIsARouterOr0() {
        int[] given = {0, 1, 63, 64, -1, 70, Integer.MAX_VALUE, Integer.MIN_VALUE};
        int[] itself = {0, 1, 63, 0, 0, 0, 0, 0};
        for (int i = 0; i < given.length; i++) {
            Bench x = Check.withPorts(given[i], 1);
            int me = itself[i];
            Check.illegalArgument("1: itself is " + me, () -> x.greeting(0, me, true));
            int other = me == 0 ? 63 : 0;
            Check.same("1: another one is not itself", x.greeting(0, other, true), 2);
            x.own(4);
            Check.same("1: its own advert", x.known(me), 1);
        }
    }

    private static void portsGoOnAndOff() {
        Bench x = new Bench(1);
        for (int port = 0; port < 8; port++) {
            Check.same("2: off at first", x.port(port, false), false);
            Check.same("2: on", x.port(port, true), true);
            Check.same("2: on again", x.port(port, true), false);
            Check.same("2: a port alone goes on", x.greeting(port, 2, false), 1);
        }
        Check.same("2: off", x.port(3, false), true);
        Check.same("2: off again", x.port(3, false), false);
        Check.illegalState("2: is off", () -> x.greeting(3, 2, false));
        Check.same("2: the others stay", x.count(false), 7);
        Check.same("2: on once more", x.port(3, true), true);
        Check.same("2: what was heard is not so again", x.state(3, 2), 0);
        Check.same("2: on while on changes nothing", x.port(4, true), false);
        Check.same("2: still heard", x.state(4, 2), 1);
    }

    private static void greetingsMakeHeardAndFriends() {
        Bench x = Check.withPorts(1, 2);
        Check.same("3: heard", x.greeting(0, 2, false), 1);
        Check.same("12: heard", x.state(0, 2), 1);
        Check.same("12: not on another port", x.state(1, 2), 0);
        Check.same("12: nor another router", x.state(0, 3), 0);
        Check.same("3: friend at once", x.greeting(1, 3, true), 2);
        Check.same("12: friend", x.state(1, 3), 2);
        Check.same("12: itself is not heard", x.state(0, 1), 0);
        Check.same("16: heard", x.count(false), 2);
        Check.same("16: friends", x.count(true), 1);
    }

    private static void friendshipFollowsTheLastGreeting() {
        Bench x = Check.withPorts(1, 1);
        x.own(9);
        Check.same("3: heard", x.greeting(0, 2, false), 1);
        Check.same("15: nothing is due to one that is no friend", x.due(0, 2), 0);
        Check.same("3: friend", x.greeting(0, 2, true), 2);
        Check.same("15: due", x.due(0, 2), 1);
        Check.same("3: friend still", x.greeting(0, 2, true), 2);
        Check.same("15: due still", x.due(0, 2), 1);
        Check.same("3: no friend any more", x.greeting(0, 2, false), 1);
        Check.same("12: heard", x.state(0, 2), 1);
        Check.same("15: due no more", x.due(0, 2), 0);
        Check.sendsNothing("9: nothing to one that is no friend", x);
        Check.same("16: heard", x.count(false), 1);
        Check.same("16: friends", x.count(true), 0);
    }

    private static void heardFor80Ticks() {
        Bench x = Check.withPorts(1, 1);
        x.run(7);
        x.greeting(0, 2, false);
        x.run(79);
        Check.same("12: heard after 79 ticks", x.state(0, 2), 1);
        x.greeting(0, 2, false);
        x.run(79);
        Check.same("12: heard after a further greeting", x.state(0, 2), 1);
        x.run(1);
        Check.same("12: not heard after 80 ticks", x.state(0, 2), 0);
        Check.same("16: none is heard", x.count(false), 0);
        Check.same("3: heard anew", x.greeting(0, 2, false), 1);
        x.run(2000);
        Check.same("12: not heard after 2000 ticks", x.state(0, 2), 0);
    }

    private static void friendsAreLostAfter80Ticks() {
        Bench x = Check.withPorts(1, 1);
        x.own(3);
        x.greeting(0, 2, true);
        x.run(40);
        x.greeting(0, 3, true);
        Check.same("15: due", x.due(0, 2), 1);
        x.run(40);
        Check.same("12: silent for 80 ticks", x.state(0, 2), 0);
        Check.same("12: silent for 40 ticks", x.state(0, 3), 2);
        Check.same("15: due to no friend", x.due(0, 2), 0);
        Check.same("15: due to a friend", x.due(0, 3), 1);
        Check.same("4: an advert of one that is no friend", x.advert(0, 2, 5, 1, 1), DeskBench.NONE);
        Check.same("16: friends", x.count(true), 1);
        Check.same("3: heard anew, and no friend", x.greeting(0, 2, false), 1);
        Check.same("15: what was due is not so again", x.due(0, 2), 0);
    }

    private static void aPortThatGoesOffIsHeardNoMore() {
        Bench x = Check.withPorts(1, 2);
        x.own(3);
        x.greeting(0, 2, true);
        x.greeting(0, 3, false);
        x.greeting(1, 2, true);
        x.port(0, false);
        Check.same("2: a friend is lost", x.state(0, 2), 0);
        Check.same("2: one heard is lost", x.state(0, 3), 0);
        Check.same("2: the other port stays", x.state(1, 2), 2);
        Check.same("15: due there no more", x.due(0, 2), 0);
        Check.same("15: due on the other port", x.due(1, 2), 1);
        Check.same("16: heard", x.count(false), 1);
        Check.illegalState("4: the port is off", () -> x.advert(0, 2, 3, 1, 1));
        Check.illegalState("5: the port is off", () -> x.thanks(0, 2, 1, 1));
    }

    private static void oneRouterOnSeveralPorts() {
        Bench x = Check.withPorts(1, 8);
        for (int port = 0; port < 8; port++) {
            Check.same("3: on each port", x.greeting(port, 9, port % 2 == 0), port % 2 == 0 ? 2 : 1);
            Check.same("16: counts so often", x.count(false), port + 1);
        }
        Check.same("16: friends", x.count(true), 4);
        x.greeting(0, 9, false);
        Check.same("12: each port has its own last greeting", x.state(2, 9), 2);
        Check.same("16: one friend less", x.count(true), 3);
    }

    private static Bench withSixteen() {
        Bench x = Check.withPorts(0, 8);
        for (int i = 0; i < 16; i++) {
            Check.same("3: one of 16", x.greeting(i % 8, 10 + i / 8, true), 2);
        }
        return x;
    }

    private static void atMost16AreHeard() {
        Bench x = withSixteen();
        Check.same("3: a 17th", x.greeting(0, 12, true), 0);
        Check.same("3: a 17th, not naming", x.greeting(0, 12, false), 0);
        Check.same("12: is not heard", x.state(0, 12), 0);
        Check.same("3: one of the 16 goes on", x.greeting(7, 11, false), 1);
        Check.same("3: being no friend frees no place", x.greeting(0, 12, true), 0);
        Check.same("16: heard", x.count(false), 16);
        Check.same("16: friends", x.count(true), 15);
        x.port(7, false);
        Check.same("16: two less", x.count(false), 14);
        Check.same("3: there is room", x.greeting(0, 12, true), 2);
        Check.same("3: for two", x.greeting(0, 13, true), 2);
        Check.same("3: not for three", x.greeting(0, 14, true), 0);
    }

    private static void aSeventeenthCountsForNothingButThe16GoOn() {
        Bench x = withSixteen();
        x.run(79);
        x.greeting(3, 10, true);
        Check.same("3: all places are taken", x.greeting(3, 12, true), 0);
        x.run(1);
        Check.same("16: one is left", x.count(false), 1);
        Check.same("3: there is room", x.greeting(3, 12, true), 2);
        Check.same("12: the one that greeted again", x.state(3, 10), 2);
    }

    private static void runTellsTheTime() {
        Bench x = new Bench(0);
        Check.same("8: run(1)", x.run(1), 1);
        Check.same("17: time", x.time(), 1);
        Check.same("8: run(2000)", x.run(2000), 2001);
        Check.same("17: time", x.time(), 2001);
        int[] none = {0, -1, 2001, Integer.MAX_VALUE, Integer.MIN_VALUE};
        for (int n : none) {
            Check.illegalArgument("8: run(" + n + ")", () -> x.run(n));
        }
        Check.same("17: time stands", x.time(), 2001);
    }

    private static void edgesOfRoutersAndPorts() {
        Bench x = Check.withPorts(30, 8);
        Check.same("3: the least of both", x.greeting(0, 0, true), 2);
        Check.same("3: the greatest of both", x.greeting(7, 63, true), 2);
        Check.same("12: the least of both", x.state(0, 0), 2);
        Check.same("12: the greatest of both", x.state(7, 63), 2);
        Check.same("4: the greatest origin", x.advert(7, 63, 63, 1, 1), 0);
        Check.same("4: the least origin", x.advert(0, 0, 0, 1, 1), 0);
        Check.same("15: due to the least", x.due(0, 0), 1);
        Check.same("15: due to the greatest", x.due(7, 63), 1);
    }
}
