/**
 * What is known and what is due: none and all 64 of it, numbers that are just less, the same and
 * just greater, each answer of promise 4. Each method quotes its sentence of the document.
 */
public final class DueEdgesTest {
    private static final int ITSELF = 1;
    private static final int NONE = DeskBench.NONE;

    public static void main(String[] args) {
        whenItBecomesAFriendNothingKnown();
        whenItBecomesAFriendOneKnown();
        whenItBecomesAFriendAllKnown();
        aFriendAlready();
        forAllFriendsButTheSource();
        forNoFriends();
        ownIsDueToAllFriends();
        whenThatFriendThanksForItsNumber();
        orSendsItWithTheSameNumberOrAGreaterOne();
        orIsNoFriendAnyMore();
        atMostOneIsKnownOfEachRouter();
        advertNone();
        advertNothingHappens();
        advert0();
        advert1();
        advert2();
        advert2IsToBeSent();
        advert3();
        advert3NothingMore();
        advertOfItselfThatIsNotGreater();
        thanksForWhatIsNotDue();
        ownNumbers();
        ownAfterWhatCame();
        forgetWithoutOne();
        forgetOne();
        forgetOneThatIsDueToAll();
        forgetAll();
        forgetThatOfItself();
        withoutOne();
        dueToWhom();
        Check.end("DueEdgesTest");
    }

    /** Friends 2 and 3 on port 0, and 2 on port 1; 4 is heard on port 0; port 7 is on. */
    private static Bench withFriends() {
        Bench x = Check.withPorts(ITSELF, 8);
        x.greeting(0, 2, true);
        x.greeting(0, 3, true);
        x.greeting(1, 2, true);
        x.greeting(0, 4, false);
        return x;
    }

    private static void dues(String what, Bench x, int due02, int due03, int due12) {
        Check.same("15: " + what + ": due to 2 on port 0", x.due(0, 2), due02);
        Check.same("15: " + what + ": due to 3 on port 0", x.due(0, 3), due03);
        Check.same("15: " + what + ": due to 2 on port 1", x.due(1, 2), due12);
        Check.same("15: " + what + ": due to 4, who is heard", x.due(0, 4), 0);
    }

    /** Adverts of all 64 routers are known, each with its router's number as body. */
    private static void makeAllKnown(Bench x) {
        for (int origin = 0; origin < 64; origin++) {
            if (origin == ITSELF) {
                x.own(origin);
            } else {
                x.advert(0, 2, origin, 1 + origin, origin);
            }
        }
    }

    /** "when it becomes a friend, for all that are known": none is */
    private static void whenItBecomesAFriendNothingKnown() {
        Bench x = withFriends();
        Check.same("3: a friend", x.greeting(7, 63, true), 2);
        Check.same("15: nothing is due", x.due(7, 63), 0);
        Check.sendsNothing("9: nothing is sent", x);
    }

    private static void whenItBecomesAFriendOneKnown() {
        for (int origin : new int[] {0, 63}) {
            Bench x = withFriends();
            x.advert(0, 2, origin, 5, 50);
            Check.same("3: heard", x.greeting(7, 63, false), 1);
            Check.same("15: nothing is due yet", x.due(7, 63), 0);
            Check.same("3: a friend", x.greeting(7, 63, true), 2);
            Check.same("15: one is due", x.due(7, 63), 1);
            Check.same("3: a friend at once", x.greeting(6, 62, true), 2);
            Check.same("15: one is due", x.due(6, 62), 1);
        }
    }

    /** "for all that are known": 64 are */
    private static void whenItBecomesAFriendAllKnown() {
        Bench x = Check.withPorts(ITSELF, 2);
        x.greeting(0, 2, true);
        makeAllKnown(x);
        Check.same("15: to the source its own alone", x.due(0, 2), 1);
        Check.same("3: a friend", x.greeting(1, 63, true), 2);
        Check.same("15: all are due, that of itself and its own too", x.due(1, 63), 64);
        Check.same("9: 63 thanks and one advert", countsNext(x, 64), 64);
        for (int origin = 0; origin < 64; origin++) {
            Check.same("9: an advert", x.next(), true);
            Check.same("10: in their order", x.message(3), origin);
            Check.same("10: each with its body", x.message(5), origin);
        }
        Check.sendsNothing("9: each once", x);
        Check.same("15: all are due still", x.due(1, 63), 64);
    }

    private static int countsNext(Bench x, int most) {
        int made = 0;
        while (made < most && x.next()) {
            made++;
        }
        return made;
    }

    /** It does not become a friend that is one. */
    private static void aFriendAlready() {
        Bench x = withFriends();
        x.own(5);
        Check.same("5: thanks", x.thanks(0, 2, ITSELF, 1), true);
        Check.same("3: a friend still", x.greeting(0, 2, true), 2);
        dues("nothing anew", x, 0, 1, 1);
        Check.same("3: no friend", x.greeting(0, 2, false), 1);
        Check.same("3: a friend again", x.greeting(0, 2, true), 2);
        dues("all anew", x, 1, 1, 1);
    }

    /** "when an advert becomes known, for all friends but that (router and port) from which it came" */
    private static void forAllFriendsButTheSource() {
        Bench x = Check.withPorts(ITSELF, 8);
        for (int i = 0; i < 16; i++) {
            x.greeting(i % 8, 2 + i / 8, true);
        }
        Check.same("4: from one of 16", x.advert(7, 3, 63, 5, 50), 0);
        for (int i = 0; i < 16; i++) {
            boolean source = i == 15;
            Check.same("15: to all 16 but the source", x.due(i % 8, 2 + i / 8), source ? 0 : 1);
        }
        Bench y = withFriends();
        y.advert(0, 2, 9, 5, 50);
        dues("not to 2 on port 0", y, 0, 1, 1);
        y.advert(1, 2, 10, 5, 50);
        dues("not to 2 on port 1", y, 1, 2, 1);
        y.advert(0, 3, 2, 5, 50);
        dues("not to 3, but to 2, whose it is", y, 2, 2, 2);
    }

    /** The same, when the source is the only friend, and for its own when there is no friend. */
    private static void forNoFriends() {
        Bench x = Check.withPorts(ITSELF, 1);
        x.greeting(0, 2, true);
        x.greeting(0, 4, false);
        Check.same("4: from the only friend", x.advert(0, 2, 9, 5, 50), 0);
        Check.same("15: due to nobody", x.due(0, 2) + x.due(0, 4), 0);
        Check.sendsThanks("9: the thanks", x, 0, 2, 9, 5);
        Check.sendsNothing("9: no advert", x);
        Bench y = new Bench(ITSELF);
        Check.same("6: without a friend", y.own(5), 1);
        Check.same("13: it is known", y.known(ITSELF), 1);
        Check.sendsNothing("9: to nobody", y);
    }

    private static void ownIsDueToAllFriends() {
        Bench x = Check.withPorts(ITSELF, 8);
        for (int i = 0; i < 16; i++) {
            x.greeting(i % 8, 2 + i / 8, i != 9);
        }
        x.own(5);
        for (int i = 0; i < 16; i++) {
            Check.same("15: to all friends", x.due(i % 8, 2 + i / 8), i != 9 ? 1 : 0);
        }
        Check.same("9: so many are sent", countsNext(x, 20), 15);
    }

    /** "when that friend thanks for its number" */
    private static void whenThatFriendThanksForItsNumber() {
        for (int number : new int[] {2, 5, 1000, 999999999}) {
            Bench x = withFriends();
            x.advert(0, 2, 9, number, 50);
            Check.same("5: 1 less", x.thanks(0, 3, 9, number - 1), false);
            Check.same("5: 1 more", x.thanks(0, 3, 9, number + 1), false);
            Check.same("5: another router's", x.thanks(0, 3, 10, number), false);
            dues("not thanked for", x, 0, 1, 1);
            Check.same("5: its number", x.thanks(0, 3, 9, number), true);
            dues("thanked for", x, 0, 0, 1);
            Check.same("5: again", x.thanks(0, 3, 9, number), false);
            Check.same("5: another port", x.thanks(1, 2, 9, number), true);
            dues("thanked for", x, 0, 0, 0);
            Check.same("13: it is known still", x.known(9), number);
        }
    }

    /** "or sends it with the same number or a greater one" */
    private static void orSendsItWithTheSameNumberOrAGreaterOne() {
        for (int more = -1; more <= 1; more++) {
            Bench x = withFriends();
            x.advert(0, 2, 9, 5, 50);
            int[] answers = {2, 1, 0};
            Check.same("4: 5 and " + more, x.advert(0, 3, 9, 5 + more, 51), answers[more + 1]);
            dues("5 and " + more, x, more == 1 ? 1 : 0, more == -1 ? 1 : 0, 1);
        }
        Bench x = withFriends();
        x.own(5);
        x.own(6);
        Check.same("4: its own, 1 less", x.advert(0, 2, ITSELF, 1, 51), 2);
        Check.same("4: its own, the same", x.advert(0, 3, ITSELF, 2, 51), 1);
        Check.same("4: its own, 1 more", x.advert(1, 2, ITSELF, 3, 51), 3);
        dues("its own", x, 1, 0, 0);
    }

    /** "or is no friend any more" */
    private static void orIsNoFriendAnyMore() {
        Bench x = withFriends();
        x.own(5);
        x.greeting(0, 3, false);
        dues("3 is heard only", x, 1, 0, 1);
        x.port(1, false);
        dues("port 1 is off", x, 1, 0, 0);
        x.run(79);
        dues("79 ticks", x, 1, 0, 0);
        x.run(1);
        dues("80 ticks", x, 0, 0, 0);
        Check.same("9: the greetings of 7 ports alone", countsNext(x, 20), 7);
        x.port(1, true);
        x.greeting(0, 2, true);
        x.greeting(0, 3, true);
        x.greeting(1, 2, true);
        dues("friends again", x, 1, 1, 1);
    }

    /** "Of each router at most one ADVERT is KNOWN" */
    private static void atMostOneIsKnownOfEachRouter() {
        Bench x = withFriends();
        for (int number = 1; number <= 20; number++) {
            Check.same("4: a greater one", x.advert(0, 2, 9, number, 10 * number), 0);
            Check.same("13: in its place", x.known(9), number);
            Check.same("14: in its place", x.body(9), 10 * number);
            dues("one of 9", x, 0, 1, 1);
        }
        Check.same("7: it is forgotten", x.forget(9), true);
        Check.same("13: none of the former ones is known", x.known(9), NONE);
    }

    /** "NONE: that is no friend there" */
    private static void advertNone() {
        Bench x = withFriends();
        Check.same("4: not heard at all", x.advert(0, 5, 9, 5, 50), NONE);
        Check.same("4: heard only", x.advert(0, 4, 9, 5, 50), NONE);
        Check.same("4: a friend on another port", x.advert(1, 3, 9, 5, 50), NONE);
        Check.same("4: nobody is heard there", x.advert(7, 2, 9, 5, 50), NONE);
        x.greeting(0, 3, false);
        Check.same("4: a friend before its last greeting", x.advert(0, 3, 9, 5, 50), NONE);
        x.run(79);
        Check.same("4: a friend at 79 ticks", x.advert(1, 2, 9, 5, 50), 0);
        x.run(1);
        Check.same("4: no friend at 80 ticks", x.advert(0, 2, 9, 6, 50), NONE);
        x.greeting(0, 2, true);
        x.port(0, false);
        x.port(0, true);
        Check.same("4: a friend before the port was off", x.advert(0, 2, 9, 6, 50), NONE);
        Check.same("13: what came of the friend", x.known(9), 5);
    }

    /** "nothing happens" */
    private static void advertNothingHappens() {
        Bench x = withFriends();
        x.own(5);
        x.advert(0, 2, 9, 5, 50);
        countsNext(x, 20);
        for (int origin : new int[] {0, 4, 9, ITSELF, 63}) {
            Check.same("4: of one that is heard", x.advert(0, 4, origin, 99, 9), NONE);
            Check.same("4: of one that is not", x.advert(0, 5, origin, 99, 9), NONE);
        }
        Check.sendsNothing("9: no thanks, no advert", x);
        Check.same("13: known", x.known(9), 5);
        Check.same("13: not known", x.known(4), NONE);
        Check.same("13: not known", x.known(63), NONE);
        Check.same("12: heard as before", x.state(0, 4), 1);
        Check.same("12: not heard as before", x.state(0, 5), 0);
        dues("as before", x, 1, 2, 2);
        Check.same("6: what came so does not count", x.own(6), 2);
    }

    /** "0: it is known from now on, since none or one with a lesser number was" */
    private static void advert0() {
        Bench x = withFriends();
        Check.same("4: none was", x.advert(0, 2, 9, 1, 10), 0);
        Check.same("13: number", x.known(9), 1);
        Check.same("4: 1 less was", x.advert(0, 2, 9, 2, 20), 0);
        Check.same("13: number", x.known(9), 2);
        Check.same("14: body", x.body(9), 20);
        Check.same("4: far less was", x.advert(0, 3, 9, 1000000000, 30), 0);
        Check.same("13: number", x.known(9), 1000000000);
        dues("it came from 3", x, 1, 0, 1);
        x.forget(9);
        Check.same("4: none is any more", x.advert(0, 2, 9, 1, 40), 0);
        Check.same("13: number", x.known(9), 1);
        Check.same("14: body", x.body(9), 40);
        Check.same("9: four thanks, two adverts", countsNext(x, 20), 6);
    }

    /** "1: that with the same number is known" */
    private static void advert1() {
        Bench x = withFriends();
        x.advert(0, 2, 9, 5, 50);
        countsNext(x, 20);
        Check.same("4: from where it came", x.advert(0, 2, 9, 5, 51), 1);
        Check.same("14: its body stays", x.body(9), 50);
        dues("as before", x, 0, 1, 1);
        Check.sendsThanks("9: a thanks", x, 0, 2, 9, 5);
        Check.sendsNothing("9: and nothing more", x);
        Check.same("4: from one to whom it is due", x.advert(0, 3, 9, 5, 52), 1);
        dues("due no more", x, 0, 0, 1);
        Check.sendsThanks("9: a thanks", x, 0, 3, 9, 5);
        Check.sendsNothing("9: and nothing more", x);
        x.run(15);
        Check.sendsAdvert("9: to the one to whom it is due", x, 1, 2, 9, 5, 50);
        Check.sendsNothing("9: and to nobody else", x);
    }

    /** "2: one with a greater one is, and is due to the sender" */
    private static void advert2() {
        Bench x = withFriends();
        x.advert(0, 2, 9, 5, 50);
        Check.same("4: 1 less, from where it came", x.advert(0, 2, 9, 4, 40), 2);
        dues("to the sender too", x, 1, 1, 1);
        Check.same("4: 1 less, while it is due", x.advert(0, 3, 9, 4, 40), 2);
        dues("once", x, 1, 1, 1);
        Check.same("5: thanks", x.thanks(1, 2, 9, 5), true);
        Check.same("4: the least, after thanks", x.advert(1, 2, 9, 1, 10), 2);
        dues("again", x, 1, 1, 1);
        Check.same("13: number stays", x.known(9), 5);
        Check.same("14: body stays", x.body(9), 50);
        Check.sendsThanks("9: a thanks for each", x, 0, 2, 9, 5);
        Check.sendsThanks("9: with the number that came", x, 0, 2, 9, 4);
        Check.sendsThanks("9: with the number that came", x, 0, 3, 9, 4);
        Check.sendsThanks("9: with the number that came", x, 1, 2, 9, 1);
    }

    /** "and to be sent": though it was sent a moment ago */
    private static void advert2IsToBeSent() {
        Bench x = withFriends();
        x.advert(0, 2, 9, 5, 50);
        countsNext(x, 20);
        Check.same("4: 1 less", x.advert(0, 3, 9, 4, 40), 2);
        Check.sendsThanks("9: a thanks", x, 0, 3, 9, 4);
        Check.sendsAdvert("9: and it", x, 0, 3, 9, 5, 50);
        Check.sendsNothing("9: to the sender alone", x);
        x.run(14);
        Check.sendsNothing("9: not yet again", x);
        x.run(1);
        Check.sendsAdvert("9: again", x, 0, 3, 9, 5, 50);
        Check.sendsAdvert("9: again", x, 1, 2, 9, 5, 50);
    }

    /** "3: the origin is itself, and the number is greater than any that its own had or that came" */
    private static void advert3() {
        Bench x = withFriends();
        Check.same("4: the least, and it had none", x.advert(0, 2, ITSELF, 1, 9), 3);
        Check.same("4: as great as one that came", x.advert(0, 3, ITSELF, 1, 9), 1);
        Check.same("4: 1 more than one that came", x.advert(0, 3, ITSELF, 2, 9), 3);
        Check.same("6: its own", x.own(5), 3);
        Check.same("4: as great as its own", x.advert(0, 2, ITSELF, 3, 9), 1);
        Check.same("4: 1 more than its own", x.advert(0, 2, ITSELF, 4, 9), 3);
        Check.same("4: far more", x.advert(0, 2, ITSELF, 100, 9), 3);
        Check.same("4: less than one that came", x.advert(0, 2, ITSELF, 99, 9), 1);
        Check.same("4: another origin is no matter", x.advert(0, 2, 9, 500, 9), 0);
        Check.same("4: 1 more than one that came", x.advert(0, 2, ITSELF, 101, 9), 3);
        x.forget(ITSELF);
        Check.same("4: as great as one that came, forgotten", x.advert(0, 2, ITSELF, 101, 9), 1);
        Check.same("4: 1 more, forgotten", x.advert(0, 2, ITSELF, 102, 9), 3);
    }

    /** "nothing more (its own known one stays as it is)" */
    private static void advert3NothingMore() {
        Bench x = withFriends();
        Check.same("4: without its own", x.advert(0, 2, ITSELF, 7, 9), 3);
        Check.same("13: it does not become known", x.known(ITSELF), NONE);
        Check.same("14: nor its body", x.body(ITSELF), 0);
        dues("to nobody", x, 0, 0, 0);
        Check.sendsThanks("9: a thanks", x, 0, 2, ITSELF, 7);
        Check.sendsNothing("9: and nothing more", x);
        Check.same("6: its own", x.own(5), 8);
        countsNext(x, 20);
        Check.same("4: with its own", x.advert(0, 2, ITSELF, 20, 9), 3);
        Check.same("13: it stays", x.known(ITSELF), 8);
        Check.same("14: and its body", x.body(ITSELF), 5);
        Check.same("15: due to the others still", x.due(0, 3) + x.due(1, 2), 2);
        Check.sendsThanks("9: a thanks", x, 0, 2, ITSELF, 20);
        Check.sendsNothing("9: and nothing more", x);
    }

    /** "(If the origin is itself and it is not: 2 if its own has a greater number, otherwise 1.)" */
    private static void advertOfItselfThatIsNotGreater() {
        Bench x = withFriends();
        x.advert(0, 2, ITSELF, 4, 9);
        Check.same("4: without its own", x.advert(0, 2, ITSELF, 4, 9), 1);
        Check.same("4: without its own", x.advert(0, 2, ITSELF, 1, 9), 1);
        dues("there is none", x, 0, 0, 0);
        Check.same("6: its own", x.own(5), 5);
        x.thanks(0, 2, ITSELF, 5);
        x.thanks(0, 3, ITSELF, 5);
        x.thanks(1, 2, ITSELF, 5);
        countsNext(x, 20);
        Check.same("4: the same", x.advert(0, 2, ITSELF, 5, 9), 1);
        dues("no matter", x, 0, 0, 0);
        Check.same("4: 1 less", x.advert(0, 2, ITSELF, 4, 9), 2);
        dues("due to the sender", x, 1, 0, 0);
        Check.sendsThanks("9: a thanks", x, 0, 2, ITSELF, 5);
        Check.sendsThanks("9: a thanks", x, 0, 2, ITSELF, 4);
        Check.sendsAdvert("9: its own", x, 0, 2, ITSELF, 5, 5);
        Check.sendsNothing("9: and nothing more", x);
        Check.same("14: its body stays", x.body(ITSELF), 5);
        Check.same("6: its own goes on", x.own(6), 6);
    }

    /** Promise 5: "whether it was due to it, and is no more" */
    private static void thanksForWhatIsNotDue() {
        Bench x = withFriends();
        Check.same("5: nothing is known", x.thanks(0, 2, 9, 1), false);
        x.own(5);
        Check.same("5: not heard", x.thanks(0, 5, ITSELF, 1), false);
        Check.same("5: heard only", x.thanks(0, 4, ITSELF, 1), false);
        Check.same("5: a friend on another port", x.thanks(1, 3, ITSELF, 1), false);
        dues("as before", x, 1, 1, 1);
        Check.same("5: before it is sent", x.thanks(0, 2, ITSELF, 1), true);
        Check.sendsAdvert("9: to 3", x, 0, 3, ITSELF, 1, 5);
        Check.same("5: after it is sent", x.thanks(0, 3, ITSELF, 1), true);
        x.own(6);
        Check.same("5: for the former number", x.thanks(0, 2, ITSELF, 1), false);
        dues("the new number", x, 1, 1, 1);
        x.forget(ITSELF);
        Check.same("5: forgotten", x.thanks(0, 2, ITSELF, 2), false);
        Check.same("5: no thanks for thanks", countsNext(x, 20), 0);
    }

    /** "its number, 1 more than the greatest one that its own had" */
    private static void ownNumbers() {
        Bench x = new Bench(ITSELF);
        for (int number = 1; number <= 100; number++) {
            Check.same("6: own", x.own(-number), number);
            Check.same("13: known", x.known(ITSELF), number);
            Check.same("14: body", x.body(ITSELF), -number);
        }
    }

    /** "or that came" */
    private static void ownAfterWhatCame() {
        Bench x = withFriends();
        x.advert(0, 2, 9, 77, 9);
        Check.same("6: that of another router is no matter", x.own(5), 1);
        x.advert(0, 2, ITSELF, 1, 9);
        Check.same("6: the same came", x.own(5), 2);
        x.advert(0, 2, ITSELF, 1, 9);
        Check.same("6: a lesser one came", x.own(5), 3);
        x.advert(0, 2, ITSELF, 4, 9);
        Check.same("6: 1 more came", x.own(5), 5);
        x.advert(0, 2, ITSELF, 50, 9);
        x.advert(0, 2, ITSELF, 40, 9);
        Check.same("6: the greatest that came", x.own(5), 51);
        x.thanks(0, 2, ITSELF, 90);
        Check.same("6: thanks are no matter", x.own(5), 52);
        x.advert(0, 2, ITSELF, 1000000000, 9);
        Check.same("6: the greatest of all", x.own(5), 1000000001);
        Check.same("6: and on", x.own(5), 1000000002);
        Check.same("13: known", x.known(ITSELF), 1000000002);
        Check.same("4: the greatest that can come is less", x.advert(0, 2, ITSELF, 1000000000, 9), 2);
        Check.same("9: a thanks for each that came", countsNext(x, 8), 8);
        Check.sendsAdvert("9: it is sent", x, 0, 2, ITSELF, 1000000002, 5);
    }

    /** Promise 7: "whether there was one": there is none */
    private static void forgetWithoutOne() {
        Bench x = withFriends();
        for (int origin : new int[] {0, ITSELF, 2, 63}) {
            Check.same("7: none is known", x.forget(origin), false);
        }
        x.own(5);
        Check.same("7: of another router", x.forget(0), false);
        Check.same("7: of another router", x.forget(2), false);
        Check.same("13: its own is known", x.known(ITSELF), 1);
        dues("its own", x, 1, 1, 1);
    }

    /** "is known no more, and due to nobody" */
    private static void forgetOne() {
        for (int origin : new int[] {0, 63}) {
            Bench x = withFriends();
            x.own(5);
            x.advert(0, 2, origin, 5, 50);
            Check.same("7: it was known", x.forget(origin), true);
            Check.same("13: no more", x.known(origin), NONE);
            Check.same("14: nor its body", x.body(origin), 0);
            dues("its own alone", x, 1, 1, 1);
            Check.same("7: again", x.forget(origin), false);
            Check.sendsThanks("9: the thanks waits still", x, 0, 2, origin, 5);
            Check.same("9: its own alone", countsNext(x, 20), 3);
            Check.same("4: the same comes again", x.advert(0, 3, origin, 5, 51), 0);
            dues("it is due", x, 2, 1, 2);
            Check.sendsThanks("9: a thanks", x, 0, 3, origin, 5);
            Check.sendsAdvert("9: it is to be sent at once", x, 0, 2, origin, 5, 51);
            Check.sendsAdvert("9: it is to be sent at once", x, 1, 2, origin, 5, 51);
        }
    }

    /** "due to nobody": it was due to all 16 */
    private static void forgetOneThatIsDueToAll() {
        Bench x = Check.withPorts(ITSELF, 8);
        for (int i = 0; i < 16; i++) {
            x.greeting(i % 8, 2 + i / 8, true);
        }
        x.own(5);
        Check.same("7: its own", x.forget(ITSELF), true);
        for (int i = 0; i < 16; i++) {
            Check.same("15: due to nobody", x.due(i % 8, 2 + i / 8), 0);
        }
        Check.sendsNothing("9: nothing is sent", x);
    }

    /** From all 64 known to none. */
    private static void forgetAll() {
        Bench x = Check.withPorts(ITSELF, 2);
        x.greeting(0, 2, true);
        makeAllKnown(x);
        x.greeting(1, 63, true);
        for (int origin = 63; origin >= 0; origin--) {
            Check.same("15: before", x.due(1, 63), origin + 1);
            Check.same("7: it was known", x.forget(origin), true);
            Check.same("13: no more", x.known(origin), NONE);
        }
        Check.same("15: none", x.due(1, 63), 0);
        Check.same("15: none", x.due(0, 2), 0);
        Check.same("9: the 63 thanks alone", countsNext(x, 100), 63);
    }

    /** "(If it is that of itself, own() still goes on from its number.)" */
    private static void forgetThatOfItself() {
        Bench x = withFriends();
        x.own(5);
        Check.same("7: its own", x.forget(ITSELF), true);
        Check.same("13: known no more", x.known(ITSELF), NONE);
        Check.same("14: nor its body", x.body(ITSELF), 0);
        dues("to nobody", x, 0, 0, 0);
        Check.same("7: again", x.forget(ITSELF), false);
        Check.same("6: own goes on", x.own(6), 2);
        Check.same("13: known", x.known(ITSELF), 2);
        dues("to all", x, 1, 1, 1);
        x.advert(0, 2, ITSELF, 10, 9);
        Check.same("7: its own, when a greater one came", x.forget(ITSELF), true);
        Check.same("6: own goes on from that", x.own(7), 11);
        x.forget(ITSELF);
        Check.same("4: less than its own had", x.advert(0, 2, ITSELF, 10, 9), 1);
        Check.same("4: as its own had", x.advert(0, 2, ITSELF, 11, 9), 1);
        dues("to nobody", x, 0, 0, 0);
        Check.same("6: own goes on", x.own(8), 12);
    }

    /** Promises 13 and 14: "NONE without one", "0 without one" */
    private static void withoutOne() {
        Bench x = withFriends();
        for (int origin : new int[] {0, 9, 62, 63}) {
            Check.same("13: none", x.known(origin), NONE);
            Check.same("14: none", x.body(origin), 0);
            x.advert(0, 2, origin, 3, -7);
            Check.same("13: one", x.known(origin), 3);
            Check.same("14: one", x.body(origin), -7);
            x.forget(origin);
            Check.same("13: none again", x.known(origin), NONE);
            Check.same("14: none again", x.body(origin), 0);
        }
        x.advert(0, 2, 9, 3, 0);
        Check.same("13: one with the body 0", x.known(9), 3);
        Check.same("7: one with the body 0", x.forget(9), true);
    }

    /** Promise 15: "How many adverts are due to a router on a port": none to all but friends */
    private static void dueToWhom() {
        Bench x = withFriends();
        x.own(5);
        Check.same("15: a friend", x.due(0, 2), 1);
        Check.same("15: heard only", x.due(0, 4), 0);
        Check.same("15: not heard", x.due(0, 5), 0);
        Check.same("15: a friend on another port", x.due(1, 3), 0);
        Check.same("15: on a port where nobody is heard", x.due(7, 2), 0);
        Check.same("15: itself", x.due(0, ITSELF), 0);
        x.port(6, false);
        Check.same("15: on a port that is off", x.due(6, 2), 0);
    }
}
