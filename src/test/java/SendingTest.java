/** Promises 9, 10 and 11, and "what is sent": the order of messages, and when they are to be sent. */
public final class SendingTest {
    public static void main(String[] args) {
        greetingsAtMultiplesOf20();
        oneGreetingOnEachPort();
        greetingsNameThoseHeardWhenMade();
        greetingsEndWithThePort();
        aPortThatComesOnWaitsForTheNextRound();
        kindsInOrder();
        thanksInOrder();
        atMost64ThanksWait();
        thanksWaitThroughAll();
        advertsInOrder();
        theAdvertOfRouter0();
        sentAgainAfter15Ticks();
        eachAdvertHasItsOwn15Ticks();
        aNewNumberIsSentAtOnce();
        settledOnesAreNotSent();
        lostFriendsGetNothing();
        aPlaceUsedAgainKeepsNothing();
        messageStaysTheLastOne();
        namedIsOfGreetingsAlone();
        Check.end("SendingTest");
    }

    private static void greetingsAtMultiplesOf20() {
        Bench x = Check.withPorts(1, 1);
        Check.sendsNothing("9: none at time 0", x);
        x.run(19);
        Check.sendsNothing("9: none at 19", x);
        x.run(1);
        Check.sendsGreeting("9: at 20", x, 0, 0L);
        Check.sendsNothing("9: one", x);
        x.run(19);
        Check.sendsNothing("9: none at 39", x);
        x.run(2);
        Check.sendsGreeting("9: past 40", x, 0, 0L);
        x.run(1000);
        Check.sendsGreeting("9: one for many rounds", x, 0, 0L);
        Check.sendsNothing("9: one for many rounds", x);
        x.run(20);
        x.run(20);
        Check.sendsGreeting("9: one, if one is to be sent still", x, 0, 0L);
        Check.sendsNothing("9: one, if one is to be sent still", x);
    }

    private static void oneGreetingOnEachPort() {
        Bench x = new Bench(1);
        x.port(7, true);
        x.port(0, true);
        x.port(4, true);
        x.run(20);
        Check.sendsGreeting("9: least port", x, 0, 0L);
        x.run(20);
        Check.sendsGreeting("9: least port again", x, 0, 0L);
        Check.sendsGreeting("9: then 4", x, 4, 0L);
        Check.sendsGreeting("9: then 7", x, 7, 0L);
        Check.sendsNothing("9: no more", x);
    }

    private static void greetingsNameThoseHeardWhenMade() {
        Bench x = Check.withPorts(1, 2);
        x.greeting(0, 2, true);
        x.greeting(0, 63, false);
        x.greeting(1, 5, true);
        x.run(20);
        x.greeting(0, 0, false);
        Check.sendsGreeting("11: friends and heard", x, 0, (1L << 2) | (1L << 63) | 1L);
        x.run(60);
        x.greeting(1, 9, false);
        Check.sendsGreeting("11: 0 is heard still", x, 0, 1L);
        Check.sendsGreeting("11: 5 is heard no more", x, 1, 1L << 9);
    }

    private static void greetingsEndWithThePort() {
        Bench x = Check.withPorts(1, 2);
        x.run(20);
        x.port(0, false);
        x.port(0, true);
        Check.sendsGreeting("2: none on a port that went off", x, 1, 0L);
        Check.sendsNothing("2: not even when it comes on again", x);
        x.run(20);
        Check.sendsGreeting("9: the next round", x, 0, 0L);
        x.port(1, false);
        Check.sendsNothing("2: went off", x);
        x.run(20);
        Check.sendsGreeting("9: on a port that is on", x, 0, 0L);
        Check.sendsNothing("9: not on one that is off", x);
    }

    private static void aPortThatComesOnWaitsForTheNextRound() {
        Bench x = new Bench(1);
        x.run(20);
        x.port(3, true);
        Check.sendsNothing("9: the time is 20 already", x);
        x.run(19);
        Check.sendsNothing("9: not yet", x);
        x.run(1);
        Check.sendsGreeting("9: at 40", x, 3, 0L);
    }

    private static void kindsInOrder() {
        Bench x = Check.withPorts(1, 2);
        x.greeting(0, 2, true);
        x.own(7);
        x.greeting(1, 3, true);
        x.advert(1, 3, 9, 5, 50);
        x.run(20);
        Check.sendsGreeting("9: greetings first", x, 0, 4L);
        Check.sendsGreeting("9: greetings first", x, 1, 8L);
        Check.sendsThanks("9: then thanks", x, 1, 3, 9, 5);
        Check.sendsAdvert("9: then adverts", x, 0, 2, 1, 1, 7);
        x.advert(1, 3, 8, 6, 60);
        Check.sendsThanks("9: thanks go before adverts", x, 1, 3, 8, 6);
        x.run(20);
        Check.sendsGreeting("9: greetings go before adverts", x, 0, 4L);
    }

    private static void thanksInOrder() {
        Bench x = Check.withPorts(1, 2);
        x.greeting(0, 2, true);
        x.greeting(1, 3, true);
        x.advert(1, 3, 20, 9, 1);
        x.advert(0, 2, 10, 8, 2);
        x.advert(1, 3, 5, 7, 3);
        x.advert(1, 3, 20, 9, 1);
        x.advert(1, 3, 1, 4, 1);
        Check.sendsThanks("9: first", x, 1, 3, 20, 9);
        Check.sendsThanks("9: second", x, 0, 2, 10, 8);
        Check.sendsThanks("9: third", x, 1, 3, 5, 7);
        Check.sendsThanks("9: the same once more", x, 1, 3, 20, 9);
        Check.sendsThanks("9: for its own", x, 1, 3, 1, 4);
        Check.sendsAdvert("9: then adverts", x, 0, 2, 5, 7, 3);
    }

    private static void atMost64ThanksWait() {
        Bench x = Check.withPorts(1, 1);
        x.greeting(0, 2, true);
        for (int number = 1; number <= 70; number++) {
            Check.same("9: the 65th is taken all the same", x.advert(0, 2, 9, number, 0), 0);
        }
        sendsThanksFor("9: the first 64", x, 1, 40);
        for (int number = 101; number <= 150; number++) {
            x.advert(0, 2, 9, number, 0);
        }
        sendsThanksFor("9: the first 64", x, 41, 64);
        sendsThanksFor("9: as many more as there was room for", x, 101, 140);
        Check.sendsNothing("9: more are lost", x);
        Check.same("13: but not the adverts", x.known(9), 150);
    }

    private static void sendsThanksFor(String what, Bench x, int from, int to) {
        for (int number = from; number <= to; number++) {
            Check.same(what + ": next()", x.next(), true);
            Check.same(what + ": a thanks", x.message(0), 2);
            Check.same(what + ": the number", x.message(4), number);
        }
    }

    private static void thanksWaitThroughAll() {
        Bench x = Check.withPorts(1, 1);
        x.greeting(0, 2, true);
        x.greeting(0, 3, true);
        x.advert(0, 2, 9, 5, 50);
        x.advert(0, 3, 8, 6, 60);
        x.greeting(0, 3, false);
        x.run(100);
        Check.same("12: heard no more", x.state(0, 2), 0);
        x.port(0, false);
        Check.sendsThanks("9: though the port is off", x, 0, 2, 9, 5);
        Check.sendsThanks("9: though it is no friend", x, 0, 3, 8, 6);
        Check.sendsNothing("9: no more", x);
    }

    private static void advertsInOrder() {
        Bench x = Check.withPorts(5, 3);
        x.greeting(2, 1, true);
        x.greeting(1, 60, true);
        x.greeting(1, 7, true);
        x.greeting(0, 63, true);
        x.advert(2, 1, 40, 4, 44);
        x.advert(2, 1, 3, 3, 33);
        x.own(55);
        Check.sendsThanks("9: thanks", x, 2, 1, 40, 4);
        Check.sendsThanks("9: thanks", x, 2, 1, 3, 3);
        Check.sendsAdvert("9: least port", x, 0, 63, 3, 3, 33);
        Check.sendsAdvert("9: next origin", x, 0, 63, 5, 1, 55);
        Check.sendsAdvert("9: next origin", x, 0, 63, 40, 4, 44);
        Check.sendsAdvert("9: next port, least router", x, 1, 7, 3, 3, 33);
        Check.sendsAdvert("9: next origin", x, 1, 7, 5, 1, 55);
        Check.sendsAdvert("9: next origin", x, 1, 7, 40, 4, 44);
        Check.sendsAdvert("9: next router", x, 1, 60, 3, 3, 33);
        Check.sendsAdvert("9: next origin", x, 1, 60, 5, 1, 55);
        Check.sendsAdvert("9: next origin", x, 1, 60, 40, 4, 44);
        Check.sendsAdvert("9: to the source its own alone", x, 2, 1, 5, 1, 55);
        Check.sendsNothing("9: all is sent", x);
    }

    private static void theAdvertOfRouter0() {
        Bench x = Check.withPorts(0, 1);
        x.own(7);
        x.greeting(0, 2, true);
        Check.same("15: it is due to a new friend", x.due(0, 2), 1);
        Check.sendsAdvert("9: though nothing else is", x, 0, 2, 0, 1, 7);
        x.advert(0, 2, 1, 1, 9);
        x.greeting(0, 3, true);
        Check.sendsThanks("9: thanks", x, 0, 2, 1, 1);
        Check.sendsAdvert("9: it goes before that of router 1", x, 0, 3, 0, 1, 7);
        Check.sendsAdvert("9: then that of router 1", x, 0, 3, 1, 1, 9);
        Check.sendsNothing("9: no more", x);
    }

    private static void sentAgainAfter15Ticks() {
        Bench x = Check.withPorts(1, 1);
        x.greeting(0, 2, true);
        x.own(7);
        x.run(3);
        Check.sendsAdvert("9: at 3", x, 0, 2, 1, 1, 7);
        Check.sendsNothing("9: once", x);
        x.run(14);
        Check.sendsNothing("9: not after 14 ticks", x);
        x.run(1);
        Check.sendsAdvert("9: after 15 ticks", x, 0, 2, 1, 1, 7);
        Check.sendsNothing("9: once", x);
        x.run(40);
        Check.same("9: the greeting", x.next(), true);
        Check.sendsAdvert("9: after 40 ticks", x, 0, 2, 1, 1, 7);
        Check.sendsNothing("9: once", x);
        Check.same("15: due all the while", x.due(0, 2), 1);
        Check.same("5: thanks", x.thanks(0, 2, 1, 1), true);
        x.run(15);
        Check.sendsGreeting("9: the greeting of 60", x, 0, 4L);
        Check.sendsNothing("9: not when it is thanked for", x);
    }

    private static void eachAdvertHasItsOwn15Ticks() {
        Bench x = Check.withPorts(1, 2);
        x.greeting(0, 2, true);
        x.greeting(1, 2, true);
        x.own(7);
        Check.sendsAdvert("9: at 0", x, 0, 2, 1, 1, 7);
        x.run(5);
        Check.sendsAdvert("9: at 5", x, 1, 2, 1, 1, 7);
        x.advert(0, 2, 9, 5, 50);
        Check.sendsThanks("9: thanks", x, 0, 2, 9, 5);
        x.run(5);
        Check.sendsAdvert("9: at 10", x, 1, 2, 9, 5, 50);
        x.run(5);
        Check.sendsAdvert("9: at 15 that of 0", x, 0, 2, 1, 1, 7);
        Check.sendsNothing("9: at 15 no other", x);
        x.run(5);
        Check.same("9: greeting", x.next() && x.next(), true);
        Check.sendsAdvert("9: at 20 that of 5", x, 1, 2, 1, 1, 7);
        Check.sendsNothing("9: at 20 no other", x);
        x.run(5);
        Check.sendsAdvert("9: at 25 that of 10", x, 1, 2, 9, 5, 50);
        Check.sendsNothing("9: at 25 no other", x);
    }

    private static void aNewNumberIsSentAtOnce() {
        Bench x = Check.withPorts(1, 2);
        x.greeting(0, 2, true);
        x.greeting(1, 3, true);
        x.own(7);
        Check.same("9: both are sent", Check.sendAll(x), 2);
        x.own(8);
        Check.sendsAdvert("9: another number", x, 0, 2, 1, 2, 8);
        Check.sendsAdvert("9: another number", x, 1, 3, 1, 2, 8);
        x.run(14);
        x.own(9);
        Check.same("9: both are sent", Check.sendAll(x), 2);
        x.run(14);
        Check.sendsGreeting("9: greeting", x, 0, 4L);
        Check.sendsGreeting("9: greeting", x, 1, 8L);
        Check.sendsNothing("9: 15 ticks from the last sending", x);
        x.run(1);
        Check.sendsAdvert("9: now", x, 0, 2, 1, 3, 9);
        x.advert(1, 3, 9, 5, 50);
        Check.same("9: all", Check.sendAll(x), 3);
        x.advert(1, 3, 9, 6, 60);
        Check.sendsThanks("9: thanks", x, 1, 3, 9, 6);
        Check.sendsAdvert("9: became known with another number", x, 0, 2, 9, 6, 60);
        Check.sendsNothing("9: no more", x);
    }

    private static void settledOnesAreNotSent() {
        Bench x = Check.withPorts(1, 1);
        x.greeting(0, 2, true);
        x.greeting(0, 3, true);
        x.own(7);
        x.thanks(0, 2, 1, 1);
        Check.sendsAdvert("9: not to the one that thanked", x, 0, 3, 1, 1, 7);
        x.advert(0, 3, 9, 5, 50);
        x.advert(0, 2, 9, 5, 50);
        Check.same("9: two thanks and nothing more", Check.sendAll(x), 2);
        x.advert(0, 3, 8, 5, 50);
        x.forget(8);
        Check.same("9: one thanks and nothing more", Check.sendAll(x), 1);
        x.advert(0, 3, 8, 5, 51);
        Check.sendsThanks("9: thanks", x, 0, 3, 8, 5);
        Check.sendsAdvert("9: known anew", x, 0, 2, 8, 5, 51);
    }

    private static void lostFriendsGetNothing() {
        Bench x = Check.withPorts(1, 2);
        x.greeting(0, 2, true);
        x.greeting(1, 3, true);
        x.own(7);
        x.port(0, false);
        Check.sendsAdvert("9: not on a port that is off", x, 1, 3, 1, 1, 7);
        x.run(15);
        x.greeting(1, 3, false);
        Check.sendsNothing("9: not to one that is no friend", x);
        x.greeting(1, 3, true);
        Check.sendsAdvert("9: a friend again", x, 1, 3, 1, 1, 7);
        x.greeting(1, 3, false);
        x.greeting(1, 3, true);
        Check.sendsAdvert("9: a friend again, at the same time", x, 1, 3, 1, 1, 7);
        x.run(80);
        Check.sendsGreeting("9: greeting", x, 1, 0L);
        Check.sendsNothing("9: not to one that is silent", x);
    }

    private static void aPlaceUsedAgainKeepsNothing() {
        Bench x = Check.withPorts(1, 1);
        x.own(7);
        x.greeting(0, 2, true);
        Check.same("9: it is sent", Check.sendAll(x), 1);
        x.port(0, false);
        x.port(0, true);
        x.greeting(0, 3, true);
        Check.sendsAdvert("9: to another one at once", x, 0, 3, 1, 1, 7);
        x.port(0, false);
        x.forget(1);
        x.port(0, true);
        x.greeting(0, 4, false);
        x.own(8);
        Check.same("15: nothing is due to one that is heard only", x.due(0, 4), 0);
        Check.sendsNothing("9: nothing", x);
    }

    private static void messageStaysTheLastOne() {
        Bench x = Check.withPorts(1, 1);
        Check.illegalState("10: none was made", () -> x.message(5));
        Check.illegalArgument("10: illegal argument comes first", () -> x.message(6));
        Check.sendsNothing("9: nothing", x);
        Check.illegalState("10: none was made still", () -> x.message(0));
        x.greeting(0, 2, true);
        x.own(7);
        Check.sendsAdvert("10: advert", x, 0, 2, 1, 1, 7);
        x.own(8);
        x.forget(1);
        x.port(0, false);
        Check.sendsNothing("9: nothing", x);
        Check.same("10: as it was made", Check.lastMessage(x), "3 0 2 1 1 7 names 0");
        int[] none = {-1, 6, 7, Integer.MAX_VALUE, Integer.MIN_VALUE};
        for (int what : none) {
            Check.illegalArgument("10: message(" + what + ")", () -> x.message(what));
        }
    }

    private static void namedIsOfGreetingsAlone() {
        Bench x = Check.withPorts(1, 1);
        Check.same("11: none was made", x.named(), 0L);
        x.greeting(0, 2, true);
        x.run(20);
        Check.sendsGreeting("11: greeting", x, 0, 4L);
        x.greeting(0, 3, true);
        x.port(0, false);
        Check.same("11: as it was made", x.named(), 4L);
        x.port(0, true);
        x.greeting(0, 2, true);
        x.advert(0, 2, 9, 1, 1);
        Check.sendsThanks("11: thanks", x, 0, 2, 9, 1);
        Check.same("11: a thanks names nobody", x.named(), 0L);
        x.run(20);
        Check.sendsGreeting("11: greeting", x, 0, 4L);
        x.own(1);
        Check.sendsAdvert("11: advert", x, 0, 2, 1, 1, 1);
        Check.same("11: an advert names nobody", x.named(), 0L);
    }
}
