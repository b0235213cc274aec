/**
 * What is to be sent: the first tick at which it is and the last at which it is not, nothing and
 * all at once. Each method quotes its sentence of the document.
 */
public final class SentEdgesTest {
    private static final int ITSELF = 1;

    public static void main(String[] args) {
        greetingsAtMultiplesOf20();
        greetingsFromAnyTime();
        greetingsOnNoPort();
        greetingsOnAllPorts();
        oneIfOneIsToBeSentStill();
        noneWhenThePortGoesOff();
        aPortThatComesOnLater();
        namingNobody();
        namingTheLeastAndTheGreatest();
        namingAllSixteen();
        namingThoseHeardWhenItIsMade();
        whenItBecomesDue();
        orBecomesKnownWithAnotherNumber();
        whenever15TicksHaveGoneBy();
        since15TicksItWasSent();
        theFirstIsAGreeting();
        thenThanksInTheirOrder();
        thenAdvertsInTheirOrder();
        sixtyFourThanksWait();
        moreAreLost();
        whatIsLostIsTheThanksAlone();
        roomForAsManyAsWereSent();
        thanksGoRound();
        sentEvenIfThePortWentOff();
        sentEvenIfThatRouterIsHeardNoMore();
        nothingIsToBeSent();
        noneWasMade();
        messageOfAGreeting();
        messageOfAThanks();
        messageOfAnAdvert();
        messageStays();
        namedOtherwise();
        Check.end("SentEdgesTest");
    }

    /** "Whenever the time becomes a multiple of 20 a greeting is to be sent" */
    private static void greetingsAtMultiplesOf20() {
        Bench x = Check.withPorts(ITSELF, 1);
        Check.sendsNothing("9: none at 0, which the time did not become", x);
        for (int time = 1; time <= 100; time++) {
            x.run(1);
            Check.same("9: a greeting at " + time, x.next(), time % 20 == 0);
        }
        Check.sendsNothing("9: one at 100", x);
    }

    private static void greetingsFromAnyTime() {
        for (int start = 1; start <= 41; start++) {
            for (int ticks : new int[] {1, 18, 19, 20, 21, 39, 40, 2000}) {
                Bench x = Check.withPorts(ITSELF, 1);
                x.run(start);
                x.next();
                x.run(ticks);
                boolean due = (start + ticks) / 20 > start / 20;
                Check.same("9: from " + start + " for " + ticks + " ticks", x.next(), due);
                Check.same("9: one at most", x.next(), false);
            }
        }
    }

    /** "on each port that is on": none is */
    private static void greetingsOnNoPort() {
        Bench x = new Bench(ITSELF);
        x.run(20);
        Check.sendsNothing("9: no port was on", x);
        x.port(0, true);
        x.port(0, false);
        x.run(2000);
        Check.sendsNothing("9: no port is on", x);
    }

    /** "on each port that is on": all 8 are, and each one alone */
    private static void greetingsOnAllPorts() {
        Bench x = Check.withPorts(ITSELF, 8);
        x.run(20);
        for (int port = 0; port < 8; port++) {
            Check.sendsGreeting("9: all ports", x, port, 0L);
        }
        Check.sendsNothing("9: one on each", x);
        for (int port = 0; port < 8; port++) {
            Bench y = new Bench(ITSELF);
            y.port(port, true);
            y.run(20);
            Check.sendsGreeting("9: port " + port + " alone", y, port, 0L);
            Check.sendsNothing("9: port " + port + " alone", y);
        }
    }

    /** "one, if one is to be sent still" */
    private static void oneIfOneIsToBeSentStill() {
        Bench x = Check.withPorts(ITSELF, 2);
        x.run(20);
        Check.sendsGreeting("9: port 0", x, 0, 0L);
        x.run(20);
        Check.sendsGreeting("9: port 0 anew", x, 0, 0L);
        Check.sendsGreeting("9: port 1, though two rounds have gone by", x, 1, 0L);
        Check.sendsNothing("9: no second one", x);
        x.run(2000);
        Check.sendsGreeting("9: a hundred rounds, port 0", x, 0, 0L);
        Check.sendsGreeting("9: a hundred rounds, port 1", x, 1, 0L);
        Check.sendsNothing("9: no second one", x);
    }

    /** "none, when the port goes off" */
    private static void noneWhenThePortGoesOff() {
        for (int off : new int[] {0, 3, 7}) {
            Bench x = Check.withPorts(ITSELF, 8);
            x.run(20);
            x.port(off, false);
            x.port(off, true);
            x.port((off + 1) % 8, true);
            for (int port = 0; port < 8; port++) {
                if (port != off) {
                    Check.sendsGreeting("2: the others", x, port, 0L);
                }
            }
            Check.sendsNothing("2: port " + off + " went off", x);
            x.run(19);
            Check.sendsNothing("2: before the next round", x);
            x.run(1);
            Check.same("9: the next round, all ports", Check.sendAll(x), 8);
        }
        Bench y = Check.withPorts(ITSELF, 1);
        y.run(20);
        y.port(0, false);
        y.run(20);
        Check.sendsNothing("2: off while the time became 40", y);
        y.port(0, true);
        Check.sendsNothing("2: and on again", y);
    }

    private static void aPortThatComesOnLater() {
        Bench x = new Bench(ITSELF);
        x.run(20);
        x.port(3, true);
        Check.sendsNothing("9: the time was 20 already", x);
        x.run(19);
        Check.sendsNothing("9: at 39", x);
        x.run(1);
        Check.sendsGreeting("9: at 40", x, 3, 0L);
    }

    /** "naming all that are heard there": nobody is */
    private static void namingNobody() {
        Bench x = Check.withPorts(ITSELF, 2);
        x.greeting(1, 5, true);
        x.run(20);
        Check.sendsGreeting("11: nobody is heard there", x, 0, 0L);
        Check.sendsGreeting("11: one is there", x, 1, 1L << 5);
    }

    /** "the sum of 2^router" */
    private static void namingTheLeastAndTheGreatest() {
        int[] routers = {0, 30, 31, 32, 33, 62, 63};
        for (int router : routers) {
            Bench x = Check.withPorts(ITSELF, 1);
            x.greeting(0, router, router % 2 == 0);
            x.run(20);
            Check.sendsGreeting("11: router " + router, x, 0, 1L << router);
        }
        Bench x = Check.withPorts(ITSELF, 1);
        long sum = 0L;
        for (int router : routers) {
            x.greeting(0, router, router % 2 == 0);
            sum += 1L << router;
        }
        x.run(20);
        Check.sendsGreeting("11: all of these, friends or not", x, 0, sum);
    }

    /** "naming all": 16 are heard, on one port and on two */
    private static void namingAllSixteen() {
        Bench x = Check.withPorts(ITSELF, 1);
        for (int router = 48; router < 64; router++) {
            x.greeting(0, router, false);
        }
        x.run(20);
        Check.sendsGreeting("11: 16 on one port", x, 0, -1L << 48);
        Bench y = Check.withPorts(ITSELF, 2);
        for (int router = 48; router < 64; router++) {
            y.greeting(router % 2, router, true);
        }
        y.run(20);
        Check.sendsGreeting("11: 8 on port 0", y, 0, 0x5555000000000000L);
        Check.sendsGreeting("11: 8 on port 1", y, 1, 0xAAAA000000000000L);
    }

    /** "when it is made" */
    private static void namingThoseHeardWhenItIsMade() {
        Bench x = Check.withPorts(ITSELF, 1);
        x.greeting(0, 2, true);
        x.run(20);
        x.greeting(0, 3, false);
        Check.sendsGreeting("11: 3 greeted later", x, 0, 12L);
        x.greeting(0, 4, true);
        Check.same("11: as it was made", x.named(), 12L);
        x.run(59);
        Check.sendsGreeting("11: at 79 ticks 2 is heard", x, 0, 28L);
        x.run(1);
        Check.sendsGreeting("11: at 80 ticks it is not", x, 0, 24L);
    }

    /** "A due advert IS TO BE SENT when it becomes due" */
    private static void whenItBecomesDue() {
        Bench x = Check.withPorts(ITSELF, 2);
        x.greeting(0, 2, true);
        Check.sendsNothing("9: nothing is due", x);
        x.own(5);
        Check.sendsAdvert("9: it became known", x, 0, 2, ITSELF, 1, 5);
        Check.sendsNothing("9: it is sent", x);
        x.greeting(1, 3, true);
        Check.sendsAdvert("9: 3 became a friend", x, 1, 3, ITSELF, 1, 5);
        Check.sendsNothing("9: it is sent", x);
        x.thanks(1, 3, ITSELF, 1);
        x.greeting(1, 3, true);
        Check.sendsNothing("9: 3 was a friend", x);
        x.greeting(1, 3, false);
        x.greeting(1, 3, true);
        Check.sendsAdvert("9: 3 became a friend again", x, 1, 3, ITSELF, 1, 5);
        x.port(1, false);
        x.port(1, true);
        x.greeting(1, 3, true);
        Check.sendsAdvert("9: and again", x, 1, 3, ITSELF, 1, 5);
        Check.sendsNothing("9: it is sent", x);
    }

    /** "(or becomes known with another number while it is due)" */
    private static void orBecomesKnownWithAnotherNumber() {
        Bench x = Check.withPorts(ITSELF, 2);
        x.greeting(0, 2, true);
        x.greeting(1, 3, true);
        x.advert(0, 2, 9, 5, 50);
        Check.sendsThanks("9: a thanks", x, 0, 2, 9, 5);
        Check.sendsAdvert("9: 5", x, 1, 3, 9, 5, 50);
        x.advert(0, 2, 9, 5, 51);
        Check.sendsThanks("9: a thanks", x, 0, 2, 9, 5);
        Check.sendsNothing("9: the same number is no other one", x);
        x.advert(0, 2, 9, 6, 60);
        Check.sendsThanks("9: a thanks", x, 0, 2, 9, 6);
        Check.sendsAdvert("9: 6", x, 1, 3, 9, 6, 60);
        x.run(14);
        x.advert(0, 2, 9, 7, 70);
        Check.sendsThanks("9: a thanks", x, 0, 2, 9, 7);
        Check.sendsAdvert("9: 7", x, 1, 3, 9, 7, 70);
        x.run(1);
        Check.sendsNothing("9: 15 ticks since 6, 1 since 7", x);
        x.run(14);
        Check.same("9: two greetings", x.next() && x.next(), true);
        Check.sendsAdvert("9: 15 ticks since 7", x, 1, 3, 9, 7, 70);
        x.advert(0, 2, 9, 8, 80);
        x.advert(0, 2, 9, 9, 90);
        Check.same("9: two thanks", x.next() && x.next(), true);
        Check.sendsAdvert("9: the newest alone", x, 1, 3, 9, 9, 90);
        Check.sendsNothing("9: the newest alone", x);
    }

    /** "and then whenever 15 ticks have gone by" */
    private static void whenever15TicksHaveGoneBy() {
        Bench x = Check.withPorts(ITSELF, 1);
        x.greeting(0, 2, true);
        x.own(5);
        x.next();
        for (int time = 1; time < 80; time++) {
            x.run(1);
            int due = (time % 20 == 0 ? 1 : 0) + (time % 15 == 0 ? 1 : 0);
            Check.same("9: messages at " + time, Check.sendAll(x), due);
        }
        for (int ticks : new int[] {14, 15, 16, 79}) {
            Bench y = Check.withPorts(ITSELF, 1);
            y.greeting(0, 2, true);
            y.own(5);
            y.next();
            y.run(ticks);
            int due = (ticks >= 20 ? 1 : 0) + (ticks >= 15 ? 1 : 0);
            Check.same("9: messages after a run of " + ticks, Check.sendAll(y), due);
        }
    }

    /** "since it was sent" */
    private static void since15TicksItWasSent() {
        Bench x = Check.withPorts(ITSELF, 1);
        x.greeting(0, 2, true);
        x.own(5);
        x.run(13);
        Check.sendsAdvert("9: due at 0, sent at 13", x, 0, 2, ITSELF, 1, 5);
        x.run(6);
        Check.sendsNothing("9: at 19", x);
        x.run(8);
        Check.sendsGreeting("9: the greeting of 20", x, 0, 4L);
        Check.sendsNothing("9: at 27", x);
        x.run(5);
        Check.sendsAdvert("9: at 32, 4 ticks late", x, 0, 2, ITSELF, 1, 5);
        x.run(11);
        Check.sendsGreeting("9: the greeting of 40", x, 0, 4L);
        Check.sendsNothing("9: at 43", x);
        x.run(3);
        Check.sendsNothing("9: at 46", x);
        x.run(1);
        Check.sendsAdvert("9: at 47", x, 0, 2, ITSELF, 1, 5);
        Check.same("5: thanks", x.thanks(0, 2, ITSELF, 1), true);
        x.run(30);
        Check.sendsGreeting("9: the greeting of 60", x, 0, 4L);
        Check.sendsNothing("9: it is due no more", x);
    }

    /** "The next message is, of these, the first: a greeting, on the least port" */
    private static void theFirstIsAGreeting() {
        Bench x = Check.withPorts(ITSELF, 8);
        x.greeting(0, 2, true);
        x.greeting(0, 3, true);
        x.advert(0, 2, 0, 5, 50);
        x.run(20);
        Check.same("9: the greetings of ports 0 to 6", nextAre(x, 1, 7), 7);
        Check.sendsGreeting("9: that of the greatest port too", x, 7, 0L);
        Check.sendsThanks("9: then the thanks", x, 0, 2, 0, 5);
        Check.sendsAdvert("9: then the advert", x, 0, 3, 0, 5, 50);
        Check.sendsNothing("9: then nothing", x);
    }

    /** Makes so many messages: how many are of this kind. */
    private static int nextAre(Bench x, int kind, int messages) {
        int found = 0;
        for (int i = 0; i < messages; i++) {
            if (x.next() && x.message(0) == kind) {
                found++;
            }
        }
        return found;
    }

    /** "a THANKS, those that are to be sent in the order in which they came to be" */
    private static void thenThanksInTheirOrder() {
        Bench x = Check.withPorts(ITSELF, 8);
        x.greeting(7, 63, true);
        x.greeting(0, 0, true);
        x.advert(7, 63, 63, 9, 1);
        x.advert(0, 0, 0, 8, 1);
        x.advert(7, 63, 63, 7, 1);
        x.advert(7, 63, 63, 9, 1);
        x.advert(0, 0, ITSELF, 3, 1);
        Check.sendsThanks("9: a new one", x, 7, 63, 63, 9);
        Check.sendsThanks("9: of the least of all", x, 0, 0, 0, 8);
        Check.sendsThanks("9: a lesser one", x, 7, 63, 63, 7);
        Check.sendsThanks("9: the same once more", x, 7, 63, 63, 9);
        Check.sendsThanks("9: its own", x, 0, 0, ITSELF, 3);
        Check.sendsAdvert("9: then adverts", x, 0, 0, 63, 9, 1);
    }

    /** "to the friend on the least port, there to the least router, of these the one of the least router" */
    private static void thenAdvertsInTheirOrder() {
        Bench x = Check.withPorts(ITSELF, 8);
        x.greeting(3, 32, true);
        for (int origin : new int[] {63, 0, 31}) {
            x.advert(3, 32, origin, 5, 50 + origin);
        }
        x.greeting(7, 63, true);
        x.greeting(7, 0, true);
        x.greeting(0, 63, true);
        x.greeting(0, 0, true);
        Check.same("9: thanks", nextAre(x, 2, 3), 3);
        for (int port : new int[] {0, 7}) {
            for (int router : new int[] {0, 63}) {
                for (int origin : new int[] {0, 31, 63}) {
                    Check.sendsAdvert("9: port, router, origin", x, port, router, origin, 5, 50 + origin);
                }
            }
        }
        Check.sendsNothing("9: all are sent", x);
    }

    /** One friend, from whom so many adverts of router 9 come, with the numbers 1, 2, and so on. */
    private static Bench afterAdverts(int adverts) {
        Bench x = Check.withPorts(ITSELF, 1);
        x.greeting(0, 2, true);
        for (int number = 1; number <= adverts; number++) {
            x.advert(0, 2, 9, number, 50);
        }
        return x;
    }

    private static void thanksFor(String what, Bench x, int from, int to) {
        for (int number = from; number <= to; number++) {
            Check.same(what + ": next", x.next(), true);
            Check.same(what + ": a thanks", x.message(0), 2);
            Check.same(what + ": its number", x.message(4), number);
        }
    }

    /** "At most 64 thanks wait": none, one, 63, 64 */
    private static void sixtyFourThanksWait() {
        for (int adverts : new int[] {0, 1, 63, 64}) {
            Bench x = afterAdverts(adverts);
            thanksFor("9: " + adverts + " wait", x, 1, adverts);
            Check.sendsNothing("9: " + adverts + " wait", x);
        }
    }

    /** "more are lost" */
    private static void moreAreLost() {
        for (int adverts : new int[] {65, 66, 128, 129}) {
            Bench x = afterAdverts(adverts);
            thanksFor("9: the first 64 of " + adverts, x, 1, 64);
            Check.sendsNothing("9: more than 64 of " + adverts, x);
            Check.same("4: none is lost any more", x.advert(0, 2, 9, 500, 50), 0);
            Check.sendsThanks("9: a new one", x, 0, 2, 9, 500);
            Check.sendsNothing("9: no other", x);
        }
    }

    /** The advert itself is taken, whatever its answer. */
    private static void whatIsLostIsTheThanksAlone() {
        Bench x = afterAdverts(64);
        x.greeting(0, 3, true);
        Check.same("4: 0", x.advert(0, 2, 8, 5, 50), 0);
        Check.same("13: it is known", x.known(8), 5);
        Check.same("4: 1", x.advert(0, 3, 8, 5, 50), 1);
        Check.same("4: 2", x.advert(0, 3, 9, 63, 50), 2);
        Check.same("4: 3", x.advert(0, 3, ITSELF, 7, 50), 3);
        Check.same("6: it came", x.own(5), 8);
        Check.same("15: its own and 9", x.due(0, 3), 2);
        thanksFor("9: those before", x, 1, 64);
        Check.sendsAdvert("9: its own", x, 0, 2, ITSELF, 8, 5);
        Check.sendsAdvert("9: its own", x, 0, 3, ITSELF, 8, 5);
        Check.sendsAdvert("9: 9", x, 0, 3, 9, 64, 50);
        Check.sendsNothing("9: nothing else", x);
    }

    /** Full, and as many places as thanks were sent. */
    private static void roomForAsManyAsWereSent() {
        Bench x = afterAdverts(64);
        thanksFor("9: three are sent", x, 1, 3);
        for (int number = 101; number <= 104; number++) {
            x.advert(0, 2, 9, number, 50);
        }
        thanksFor("9: the old ones", x, 4, 64);
        thanksFor("9: three more", x, 101, 103);
        Check.sendsNothing("9: the fourth is lost", x);
    }

    /** Full all the while, and more than 64 go through. */
    private static void thanksGoRound() {
        Bench x = afterAdverts(64);
        for (int number = 1; number <= 70; number++) {
            thanksFor("9: the oldest", x, number, number);
            x.advert(0, 2, 9, 64 + number, 50);
        }
        x.advert(0, 2, 9, 500, 50);
        for (int number = 71; number <= 134; number++) {
            x.next();
            Check.same("9: the oldest", x.message(4), number);
        }
        Check.sendsNothing("9: 500 is lost", x);
    }

    /** "One that waits is sent, even if the port went off" */
    private static void sentEvenIfThePortWentOff() {
        for (int port : new int[] {0, 7}) {
            Bench x = Check.withPorts(ITSELF, 8);
            x.greeting(port, 2, true);
            x.advert(port, 2, 9, 5, 50);
            x.run(20);
            x.port(port, false);
            Check.same("9: greetings of the other ports", nextAre(x, 1, 7), 7);
            Check.sendsThanks("9: though port " + port + " is off", x, port, 2, 9, 5);
            Check.sendsNothing("9: nothing else", x);
        }
    }

    /** "or that router is heard no more" */
    private static void sentEvenIfThatRouterIsHeardNoMore() {
        Bench x = Check.withPorts(ITSELF, 1);
        x.greeting(0, 2, true);
        x.greeting(0, 3, true);
        x.advert(0, 2, 9, 5, 50);
        x.advert(0, 3, 8, 6, 60);
        x.forget(9);
        x.run(79);
        x.greeting(0, 3, false);
        x.run(1);
        Check.same("12: 2 is heard no more", x.state(0, 2), 0);
        Check.same("12: 3 is no friend", x.state(0, 3), 1);
        Check.sendsGreeting("9: the greeting", x, 0, 8L);
        Check.sendsThanks("9: to one that is heard no more", x, 0, 2, 9, 5);
        Check.sendsThanks("9: to one that is no friend", x, 0, 3, 8, 6);
        Check.sendsNothing("9: nothing else", x);
    }

    /** "if something is to be sent: whether there was": nothing is */
    private static void nothingIsToBeSent() {
        Bench x = new Bench(ITSELF);
        Check.sendsNothing("9: new", x);
        x.port(0, true);
        x.greeting(0, 2, true);
        Check.sendsNothing("9: a friend, nothing known", x);
        x.greeting(0, 3, false);
        x.own(5);
        Check.sendsAdvert("9: one friend", x, 0, 2, ITSELF, 1, 5);
        Check.sendsNothing("9: one is no friend", x);
        Check.sendsNothing("9: nor anything by asking again", x);
        Check.same("10: the message made last stays", Check.lastMessage(x), "3 0 2 1 1 5 names 0");
    }

    /** "illegal state: none was made" */
    private static void noneWasMade() {
        Bench x = Check.withPorts(ITSELF, 1);
        x.greeting(0, 2, true);
        for (int what = 0; what < 6; what++) {
            int part = what;
            Check.illegalState("10: message(" + part + ")", () -> x.message(part));
        }
        Check.same("11: it names nobody", x.named(), 0L);
        Check.sendsNothing("9: nothing", x);
        Check.illegalState("10: next() has made none", () -> x.message(0));
        x.own(5);
        Check.illegalState("10: it is to be sent, and not made", () -> x.message(0));
        Check.same("9: it is made", x.next(), true);
        Check.same("10: an advert", x.message(0), 3);
    }

    /** "1 a greeting", "(-1: to all)", "(-1 for a greeting)", "of a greeting 0", "0 for a greeting" */
    private static void messageOfAGreeting() {
        Bench x = Check.withPorts(ITSELF, 8);
        x.greeting(0, 2, true);
        x.own(5);
        Check.sendsAdvert("10: an advert before", x, 0, 2, ITSELF, 1, 5);
        x.run(20);
        Check.same("9: the greetings of ports 0 to 6", nextAre(x, 1, 7), 7);
        Check.same("9: one more", x.next(), true);
        Check.same("10: a greeting", Check.lastMessage(x), "1 7 -1 -1 0 0 names 0");
    }

    /** "2 a thanks", "of a thanks that which came", "0 for a .. thanks" */
    private static void messageOfAThanks() {
        Bench x = Check.withPorts(ITSELF, 8);
        x.greeting(7, 63, true);
        x.advert(7, 63, 62, 1000000000, -5);
        x.advert(7, 63, 62, 1, -6);
        Check.same("9: one", x.next(), true);
        Check.same("10: a thanks", Check.lastMessage(x), "2 7 63 62 1000000000 0 names 0");
        Check.same("9: one", x.next(), true);
        Check.same("10: the number that came, not the known one", Check.lastMessage(x), "2 7 63 62 1 0 names 0");
    }

    /** "3 an advert" and its parts, as they are known when it is made */
    private static void messageOfAnAdvert() {
        Bench x = Check.withPorts(63, 8);
        x.greeting(7, 62, true);
        x.own(4);
        x.own(Integer.MIN_VALUE);
        Check.same("9: one", x.next(), true);
        Check.same("10: an advert", Check.lastMessage(x), "3 7 62 63 2 " + Integer.MIN_VALUE + " names 0");
    }

    /** "Of the message that was made last" */
    private static void messageStays() {
        Bench x = Check.withPorts(ITSELF, 1);
        x.greeting(0, 2, true);
        x.own(5);
        x.next();
        String made = "3 0 2 1 1 5 names 0";
        Check.same("10: an advert", Check.lastMessage(x), made);
        x.own(6);
        x.forget(ITSELF);
        x.advert(0, 2, 9, 5, 50);
        x.run(20);
        x.port(0, false);
        Check.same("10: as it was made", Check.lastMessage(x), made);
        Check.sendsThanks("10: the next one", x, 0, 2, 9, 5);
    }

    /** "Whom it names, if it is a greeting ..; 0 otherwise" */
    private static void namedOtherwise() {
        Bench x = Check.withPorts(ITSELF, 1);
        Check.same("11: none was made", x.named(), 0L);
        x.greeting(0, 2, true);
        x.run(20);
        Check.same("11: it is to be sent, and not made", x.named(), 0L);
        Check.sendsGreeting("11: a greeting", x, 0, 4L);
        Check.sendsNothing("9: nothing", x);
        Check.same("11: it was made last still", x.named(), 4L);
        x.advert(0, 2, 9, 5, 50);
        x.next();
        Check.same("10: a thanks", x.message(0), 2);
        Check.same("11: a thanks names nobody", x.named(), 0L);
        x.run(20);
        Check.sendsGreeting("11: a greeting", x, 0, 4L);
        x.own(5);
        x.next();
        Check.same("10: an advert", x.message(0), 3);
        Check.same("11: an advert names nobody", x.named(), 0L);
    }
}
