/** Promises 4, 5, 6, 7, 13, 14 and 15: what is known, and to whom it is due. */
public final class AdvertsTest {
    private static final int GREATEST = 1000000000;

    public static void main(String[] args) {
        onlyFriendsCount();
        newerAdvertsBecomeKnown();
        knownAdvertsAreDueToAllButTheSource();
        aFriendGetsAllThatIsKnown();
        theSameNumberSettlesIt();
        aGreaterNumberSettlesIt();
        aLesserNumberMakesItDue();
        aLesserNumberSendsAtOnce();
        ownComesBackGreater();
        ownComesBackNotGreater();
        ownComesBackWhenForgotten();
        aGreaterOwnSettlesTheOldOne();
        whatNoFriendSendsIsNotCounted();
        thanksSettleTheirNumber();
        thanksOfOthersDoNot();
        ownGoesUp();
        forgetTakesItAway();
        forgetOfItself();
        edgesOfNumbersAndBodies();
        Check.end("AdvertsTest");
    }

    /** Itself is 1; friends are 2 and 3 on port 0 and 2 on port 1; 4 is heard on port 1. */
    private static Bench withFriends() {
        Bench x = Check.withPorts(1, 2);
        x.greeting(0, 2, true);
        x.greeting(0, 3, true);
        x.greeting(1, 2, true);
        x.greeting(1, 4, false);
        return x;
    }

    private static void dues(String what, Bench x, int due02, int due03, int due12) {
        Check.same(what + ": due(0, 2)", x.due(0, 2), due02);
        Check.same(what + ": due(0, 3)", x.due(0, 3), due03);
        Check.same(what + ": due(1, 2)", x.due(1, 2), due12);
        Check.same(what + ": due(1, 4)", x.due(1, 4), 0);
        Check.same(what + ": due(1, 3)", x.due(1, 3), 0);
        Check.same(what + ": due to itself", x.due(0, 1), 0);
    }

    private static void onlyFriendsCount() {
        Bench x = withFriends();
        Check.same("4: of one that is heard only", x.advert(1, 4, 9, 5, 50), DeskBench.NONE);
        Check.same("4: of one that is not heard there", x.advert(1, 3, 9, 5, 50), DeskBench.NONE);
        Check.same("13: nothing happened", x.known(9), DeskBench.NONE);
        Check.same("14: nothing happened", x.body(9), 0);
        dues("15: nothing happened", x, 0, 0, 0);
        Check.sendsNothing("4: no thanks", x);
    }

    private static void newerAdvertsBecomeKnown() {
        Bench x = withFriends();
        Check.same("4: none was known", x.advert(0, 2, 9, 5, 50), 0);
        Check.same("13: number", x.known(9), 5);
        Check.same("14: body", x.body(9), 50);
        Check.same("4: greater", x.advert(0, 2, 9, 6, -60), 0);
        Check.same("13: number", x.known(9), 6);
        Check.same("14: body", x.body(9), -60);
        Check.same("4: same", x.advert(0, 3, 9, 6, 61), 1);
        Check.same("4: lesser", x.advert(0, 3, 9, 5, 51), 2);
        Check.same("13: number stays", x.known(9), 6);
        Check.same("14: body stays", x.body(9), -60);
        Check.same("4: the origin may be the sender", x.advert(0, 3, 3, 1, 7), 0);
        Check.same("13: another origin", x.known(3), 1);
        Check.same("13: and not its own", x.known(1), DeskBench.NONE);
        Check.sendsThanks("4: each is thanked for", x, 0, 2, 9, 5);
        Check.sendsThanks("4: each is thanked for", x, 0, 2, 9, 6);
        Check.sendsThanks("4: the same too", x, 0, 3, 9, 6);
        Check.sendsThanks("4: a lesser one with its own number", x, 0, 3, 9, 5);
        Check.sendsThanks("4: each is thanked for", x, 0, 3, 3, 1);
    }

    private static void knownAdvertsAreDueToAllButTheSource() {
        Bench x = withFriends();
        x.advert(0, 2, 9, 5, 50);
        dues("15: from 2 on port 0", x, 0, 1, 1);
        x.advert(1, 2, 8, 5, 50);
        dues("15: from 2 on port 1", x, 1, 2, 1);
        x.advert(0, 3, 2, 5, 50);
        dues("15: to its origin too", x, 2, 2, 2);
        x.own(1);
        dues("15: its own", x, 3, 3, 3);
        x.own(2);
        dues("15: its own again", x, 3, 3, 3);
    }

    private static void aFriendGetsAllThatIsKnown() {
        Bench x = withFriends();
        x.advert(0, 2, 9, 5, 50);
        x.advert(0, 2, 4, 5, 50);
        x.own(3);
        x.greeting(1, 4, true);
        Check.same("15: all, its own too", x.due(1, 4), 3);
        x.greeting(1, 4, true);
        Check.same("15: no more by a further greeting", x.due(1, 4), 3);
        Check.same("5: thanks", x.thanks(1, 4, 9, 5), true);
        x.greeting(1, 4, true);
        Check.same("15: a friend that stays one gets nothing anew", x.due(1, 4), 2);
        x.greeting(1, 4, false);
        x.greeting(1, 4, true);
        Check.same("15: one that becomes a friend again gets all", x.due(1, 4), 3);
    }

    private static void theSameNumberSettlesIt() {
        Bench x = withFriends();
        x.advert(0, 2, 9, 5, 50);
        Check.same("4: same", x.advert(1, 2, 9, 5, 50), 1);
        dues("15: settled for that friend there", x, 0, 1, 0);
        Check.same("4: same again", x.advert(1, 2, 9, 5, 50), 1);
        dues("15: settled still", x, 0, 1, 0);
        Check.same("6: own", x.own(3), 1);
        Check.same("4: its own with the same number", x.advert(0, 3, 1, 1, 8), 1);
        dues("15: its own settled", x, 1, 1, 1);
        Check.same("14: its own body stays", x.body(1), 3);
    }

    private static void aGreaterNumberSettlesIt() {
        Bench x = withFriends();
        x.advert(0, 2, 9, 5, 50);
        Check.same("15: due before", x.due(0, 3), 1);
        Check.same("4: greater", x.advert(0, 3, 9, 7, 70), 0);
        dues("15: due to the others now", x, 1, 0, 1);
    }

    private static void aLesserNumberMakesItDue() {
        Bench x = withFriends();
        x.advert(0, 2, 9, 5, 50);
        dues("15: not to the source", x, 0, 1, 1);
        Check.same("4: lesser", x.advert(0, 2, 9, 4, 40), 2);
        dues("15: the source has an old one", x, 1, 1, 1);
        Check.same("4: lesser while it is due", x.advert(0, 2, 9, 1, 10), 2);
        dues("15: due once", x, 1, 1, 1);
        Check.same("13: number stays", x.known(9), 5);
    }

    private static void aLesserNumberSendsAtOnce() {
        Bench x = withFriends();
        x.advert(0, 3, 9, 5, 50);
        Check.sendAll(x);
        x.run(3);
        Check.sendsNothing("9: sent 3 ticks ago", x);
        Check.same("4: lesser", x.advert(0, 2, 9, 4, 40), 2);
        Check.sendsThanks("4: thanks", x, 0, 2, 9, 4);
        Check.sendsAdvert("4: is to be sent", x, 0, 2, 9, 5, 50);
        Check.sendsNothing("9: to that one alone", x);
        Check.same("4: a lesser one for which it waits anew", x.advert(0, 2, 9, 3, 30), 2);
        Check.sendsThanks("4: thanks", x, 0, 2, 9, 3);
        Check.sendsAdvert("4: is to be sent", x, 0, 2, 9, 5, 50);
    }

    private static void ownComesBackGreater() {
        Bench x = withFriends();
        Check.same("4: any is greater than none", x.advert(0, 2, 1, 5, 55), 3);
        Check.same("13: it is not known", x.known(1), DeskBench.NONE);
        Check.same("14: it has no body", x.body(1), 0);
        dues("15: due to nobody", x, 0, 0, 0);
        Check.sendsThanks("4: thanks", x, 0, 2, 1, 5);
        Check.sendsNothing("4: nothing more", x);
        Check.same("6: own goes on from it", x.own(3), 6);
        Check.same("4: greater", x.advert(0, 3, 1, 9, 99), 3);
        Check.same("13: its own stays", x.known(1), 6);
        Check.same("14: its own stays", x.body(1), 3);
        Check.same("6: own goes on from it", x.own(4), 10);
    }

    private static void ownComesBackNotGreater() {
        Bench x = withFriends();
        x.advert(0, 2, 1, 9, 99);
        Check.same("4: 9 came before, and it has none", x.advert(0, 3, 1, 9, 99), 1);
        Check.same("4: 9 came before, and it has none", x.advert(0, 3, 1, 4, 99), 1);
        Check.same("6: own", x.own(3), 10);
        Check.same("4: its own is greater", x.advert(0, 2, 1, 9, 99), 2);
        Check.same("4: its own is the same", x.advert(0, 2, 1, 10, 99), 1);
        Check.same("15: settled", x.due(0, 2), 0);
        Check.same("4: its own is greater", x.advert(0, 2, 1, 1, 99), 2);
        Check.same("15: due again", x.due(0, 2), 1);
        Check.same("4: a far greater one", x.advert(0, 2, 1, 20, 99), 3);
        Check.same("4: between its own and that", x.advert(0, 3, 1, 15, 99), 1);
        Check.same("15: which settles it", x.due(0, 3), 0);
        Check.same("4: that once more", x.advert(1, 2, 1, 20, 99), 1);
        Check.same("15: which settles it", x.due(1, 2), 0);
        Check.same("4: its own is greater", x.advert(0, 3, 1, 9, 99), 2);
        Check.same("15: and is due", x.due(0, 3), 1);
        Check.same("13: its own stays", x.known(1), 10);
    }

    private static void ownComesBackWhenForgotten() {
        Bench x = withFriends();
        x.own(1);
        x.own(2);
        x.forget(1);
        Check.same("4: there is no own one now", x.advert(0, 2, 1, 1, 9), 1);
        Check.same("4: its own had that number", x.advert(0, 2, 1, 2, 9), 1);
        dues("15: due to nobody", x, 0, 0, 0);
        Check.same("4: greater than any", x.advert(0, 2, 1, 3, 9), 3);
        Check.same("13: none is known", x.known(1), DeskBench.NONE);
        Check.same("6: own goes on", x.own(3), 4);
    }

    /** Terms: due no more when that friend sends it with a greater number; it says so of its own one too. */
    private static void aGreaterOwnSettlesTheOldOne() {
        Bench x = withFriends();
        x.own(1);
        Check.same("4: greater than its own", x.advert(0, 2, 1, 7, 9), 3);
        dues("15: due no more to that friend", x, 0, 1, 1);
        x.own(2);
        dues("15: the next one is", x, 1, 1, 1);
    }

    private static void whatNoFriendSendsIsNotCounted() {
        Bench x = withFriends();
        Check.same("4: its own from no friend", x.advert(1, 4, 1, 50, 9), DeskBench.NONE);
        Check.same("6: it did not come", x.own(1), 1);
        Check.same("4: so this is greater", x.advert(0, 2, 1, 50, 9), 3);
    }

    private static void thanksSettleTheirNumber() {
        Bench x = withFriends();
        x.advert(0, 2, 9, 5, 50);
        x.own(3);
        Check.same("5: a greater number", x.thanks(0, 3, 9, 6), false);
        Check.same("5: a lesser number", x.thanks(0, 3, 9, 4), false);
        dues("15: nothing is settled", x, 1, 2, 2);
        Check.same("5: its number", x.thanks(0, 3, 9, 5), true);
        dues("15: settled", x, 1, 1, 2);
        Check.same("5: once more", x.thanks(0, 3, 9, 5), false);
        Check.same("5: was not due to the source", x.thanks(0, 2, 9, 5), false);
        Check.same("5: its own", x.thanks(0, 2, 1, 1), true);
        dues("15: settled", x, 0, 1, 2);
        x.own(4);
        dues("15: a newer one is due anew", x, 1, 1, 2);
        Check.same("5: thanks for the old one", x.thanks(0, 2, 1, 1), false);
        Check.same("13: thanks leave it known", x.known(9), 5);
        Check.same("5: before it was sent", x.thanks(1, 2, 1, 2), true);
    }

    private static void thanksOfOthersDoNot() {
        Bench x = withFriends();
        x.own(3);
        Check.same("5: of one that is heard only", x.thanks(1, 4, 1, 1), false);
        Check.same("5: of one that is not heard", x.thanks(1, 3, 1, 1), false);
        Check.same("5: for an advert that is not known", x.thanks(0, 2, 9, 1), false);
        dues("15: all is due still", x, 1, 1, 1);
        Check.same("5: on one port", x.thanks(1, 2, 1, 1), true);
        dues("15: not on the other", x, 1, 1, 0);
    }

    private static void ownGoesUp() {
        Bench x = new Bench(1);
        Check.same("6: first", x.own(-5), 1);
        Check.same("14: body", x.body(1), -5);
        Check.same("6: second", x.own(Integer.MIN_VALUE), 2);
        Check.same("13: number", x.known(1), 2);
        Check.same("14: body", x.body(1), Integer.MIN_VALUE);
        Check.same("6: a body of 0", x.own(0), 3);
        Check.same("13: number", x.known(1), 3);
        Check.same("14: body", x.body(1), 0);
    }

    private static void forgetTakesItAway() {
        Bench x = withFriends();
        x.advert(0, 2, 9, 5, 50);
        x.advert(0, 2, 8, 5, 0);
        x.own(1);
        Check.same("7: none was known", x.forget(7), false);
        Check.same("7: known", x.forget(9), true);
        Check.same("13: known no more", x.known(9), DeskBench.NONE);
        Check.same("14: no body", x.body(9), 0);
        dues("15: due to nobody", x, 1, 2, 2);
        Check.same("7: again", x.forget(9), false);
        Check.same("5: thanks for it", x.thanks(0, 3, 9, 5), false);
        Check.same("13: others stay", x.known(8), 5);
        Check.sendsThanks("7: what waits is sent", x, 0, 2, 9, 5);
        Check.same("4: a lesser one is new now", x.advert(0, 3, 9, 1, 10), 0);
        Check.same("13: number", x.known(9), 1);
        dues("15: due anew", x, 2, 2, 3);
    }

    private static void forgetOfItself() {
        Bench x = withFriends();
        Check.same("7: no own one", x.forget(1), false);
        x.own(1);
        x.own(2);
        Check.same("7: its own", x.forget(1), true);
        Check.same("13: known no more", x.known(1), DeskBench.NONE);
        Check.same("14: no body", x.body(1), 0);
        dues("15: due to nobody", x, 0, 0, 0);
        Check.sendsNothing("9: nothing is sent", x);
        Check.same("6: own goes on from its number", x.own(3), 3);
        dues("15: due anew", x, 1, 1, 1);
    }

    private static void edgesOfNumbersAndBodies() {
        Bench x = withFriends();
        Check.same("4: the least number", x.advert(0, 2, 9, 1, Integer.MAX_VALUE), 0);
        Check.same("14: the greatest body", x.body(9), Integer.MAX_VALUE);
        Check.same("4: the greatest number", x.advert(0, 2, 9, GREATEST, Integer.MIN_VALUE), 0);
        Check.same("14: the least body", x.body(9), Integer.MIN_VALUE);
        Check.same("5: the greatest number", x.thanks(0, 3, 9, GREATEST), true);
        Check.same("4: the greatest of its own", x.advert(0, 2, 1, GREATEST, 0), 3);
        Check.same("6: own goes beyond it", x.own(1), GREATEST + 1);
        Check.same("6: and on", x.own(2), GREATEST + 2);
        Check.same("13: number", x.known(1), GREATEST + 2);
        Check.same("4: its own is greater", x.advert(0, 2, 1, GREATEST, 0), 2);
        Check.illegalArgument("5: no thanks can be so great", () -> x.thanks(0, 2, 1, GREATEST + 2));
    }
}
