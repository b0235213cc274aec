/**
 * How one router keeps in touch with those beside it: it greets, learns who hears it, and sends
 * the newest advert of every router to each of its friends until it is thanked for.
 *
 * <p>Sets of routers and of ports are held as bits, bit r standing for router (or port) r.
 */
public final class DeskBench {
    public static final int NONE = -1;

    private static final int ROUTERS = 64;
    private static final int PORTS = 8;
    private static final int PLACES = 16;
    private static final int WAITING_THANKS = 64;
    private static final int GREATEST_NUMBER = 1000000000;
    private static final int LAST_TIME = 1000000;
    private static final int LONGEST_RUN = 2000;
    private static final int GREETING_EVERY = 20;
    private static final int HEARD_FOR = 80;
    private static final int SENT_AGAIN_AFTER = 15;

    private static final int UNHEARD = 0;
    private static final int HEARD = 1;
    private static final int FRIEND = 2;

    private static final int NOW_KNOWN = 0;
    private static final int SAME_IS_KNOWN = 1;
    private static final int GREATER_IS_KNOWN = 2;
    private static final int GREATER_THAN_OWN = 3;

    private static final int NO_MESSAGE = 0;
    private static final int GREETING_MESSAGE = 1;
    private static final int THANKS_MESSAGE = 2;
    private static final int ADVERT_MESSAGE = 3;

    private final int itself;
    private final Adverts adverts;
    private final Neighbours neighbours;
    private final ThanksQueue thanksQueue;
    private final Message last;
    private int portsOn;
    private int greetingsToSend;
    private int greatestOwnNumber;
    private int time;

    public DeskBench(int itself) {
        this.itself = itself >= 0 && itself < ROUTERS ? itself : 0;
        this.adverts = new Adverts();
        this.neighbours = new Neighbours();
        this.thanksQueue = new ThanksQueue();
        this.last = new Message();
    }

    public boolean port(int port, boolean on) throws IllegalArgumentException {
        requirePort(port);
        if (isOn(port) == on) {
            return false;
        }
        if (on) {
            portsOn |= 1 << port;
        } else {
            portsOn &= ~(1 << port);
            greetingsToSend &= ~(1 << port);
            neighbours.dropPort(port);
        }
        return true;
    }

    public int greeting(int port, int from, boolean names)
            throws IllegalArgumentException, IllegalStateException {
        requirePort(port);
        requireSender(from);
        requireOn(port);
        int place = neighbours.placeFor(port, from);
        if (place == NONE) {
            return UNHEARD;
        }
        return neighbours.greeted(place, time, names, adverts.allOrigins());
    }

    public int advert(int port, int from, int origin, int number, int body)
            throws IllegalArgumentException, IllegalStateException {
        requireLegal(port, from, origin, number);
        int place = neighbours.friendPlace(port, from);
        if (place == NONE) {
            return NONE;
        }
        thanksQueue.add(port, from, origin, number);
        // The friend has it already, or a newer one: so it needs ours no more, be it our own advert too.
        if (number >= adverts.numberOf(origin)) {
            neighbours.settle(place, origin);
        }
        if (origin == itself) {
            return takeOwnBack(place, number);
        }
        return takeAdvert(place, origin, number, body);
    }

    public boolean thanks(int port, int from, int origin, int number)
            throws IllegalArgumentException, IllegalStateException {
        requireLegal(port, from, origin, number);
        int place = neighbours.friendPlace(port, from);
        if (place == NONE || number != adverts.numberOf(origin)) {
            return false;
        }
        return neighbours.settle(place, origin);
    }

    public int own(int body) {
        greatestOwnNumber++;
        adverts.put(itself, greatestOwnNumber, body);
        neighbours.oweToFriendsBut(NONE, itself);
        return greatestOwnNumber;
    }

    public boolean forget(int origin) throws IllegalArgumentException {
        requireRouter(origin);
        if (!adverts.has(origin)) {
            return false;
        }
        adverts.remove(origin);
        neighbours.settleAll(origin);
        return true;
    }

    public int run(int n) throws IllegalArgumentException, IllegalStateException {
        if (n < 1 || n > LONGEST_RUN) {
            throw new IllegalArgumentException("not 1 .. 2000 ticks");
        }
        if (n > LAST_TIME - time) {
            throw new IllegalStateException("the time would be more than 1000000");
        }
        int roundsBefore = time / GREETING_EVERY;
        time += n;
        if (time / GREETING_EVERY > roundsBefore) {
            greetingsToSend = portsOn;
        }
        neighbours.dropSilent(time);
        return time;
    }

    public boolean next() {
        return makeGreeting() || makeThanks() || makeAdvert();
    }

    public int message(int what) throws IllegalArgumentException, IllegalStateException {
        if (what < 0 || what >= Message.PARTS) {
            throw new IllegalArgumentException("a message has no such part");
        }
        if (!last.isMade()) {
            throw new IllegalStateException("no message was made");
        }
        return last.part(what);
    }

    public long named() {
        return last.namedRouters();
    }

    public int state(int port, int router) throws IllegalArgumentException {
        requirePort(port);
        requireRouter(router);
        return neighbours.standingOf(port, router);
    }

    public int known(int origin) throws IllegalArgumentException {
        requireRouter(origin);
        return adverts.has(origin) ? adverts.numberOf(origin) : NONE;
    }

    public int body(int origin) throws IllegalArgumentException {
        requireRouter(origin);
        return adverts.bodyOf(origin);
    }

    public int due(int port, int router) throws IllegalArgumentException {
        requirePort(port);
        requireRouter(router);
        return neighbours.owedTo(port, router);
    }

    public int count(boolean friends) {
        return neighbours.atLeast(friends ? FRIEND : HEARD);
    }

    public int time() {
        return time;
    }

    private static boolean isRouter(int router) {
        return router >= 0 && router < ROUTERS;
    }

    private static void requireRouter(int router) {
        if (!isRouter(router)) {
            throw new IllegalArgumentException("not a router");
        }
    }

    private static void requirePort(int port) {
        if (port < 0 || port >= PORTS) {
            throw new IllegalArgumentException("not a port");
        }
    }

    private static void requireNumber(int number) {
        if (number < 1 || number > GREATEST_NUMBER) {
            throw new IllegalArgumentException("not a number of an advert");
        }
    }

    private void requireSender(int from) {
        if (!isRouter(from) || from == itself) {
            throw new IllegalArgumentException("not another router");
        }
    }

    private void requireOn(int port) {
        if (!isOn(port)) {
            throw new IllegalStateException("the port is off");
        }
    }

    /** What advert() and thanks() ask for, the illegal arguments before the illegal state. */
    private void requireLegal(int port, int from, int origin, int number) {
        requirePort(port);
        requireSender(from);
        requireRouter(origin);
        requireNumber(number);
        requireOn(port);
    }

    private boolean isOn(int port) {
        return (portsOn & (1 << port)) != 0;
    }

    private int takeOwnBack(int place, int number) {
        if (number > greatestOwnNumber) {
            greatestOwnNumber = number;
            return GREATER_THAN_OWN;
        }
        if (adverts.numberOf(itself) > number) {
            neighbours.owe(place, itself);
            return GREATER_IS_KNOWN;
        }
        return SAME_IS_KNOWN;
    }

    private int takeAdvert(int place, int origin, int number, int body) {
        int knownNumber = adverts.numberOf(origin);
        if (number > knownNumber) {
            adverts.put(origin, number, body);
            neighbours.oweToFriendsBut(place, origin);
            return NOW_KNOWN;
        }
        if (number == knownNumber) {
            return SAME_IS_KNOWN;
        }
        neighbours.owe(place, origin);
        return GREATER_IS_KNOWN;
    }

    private boolean makeGreeting() {
        for (int port = 0; port < PORTS; port++) {
            int bit = 1 << port;
            if ((greetingsToSend & bit) != 0) {
                greetingsToSend &= ~bit;
                last.makeGreeting(port, neighbours.heardOn(port));
                return true;
            }
        }
        return false;
    }

    private boolean makeThanks() {
        if (thanksQueue.isEmpty()) {
            return false;
        }
        thanksQueue.moveFirstTo(last);
        return true;
    }

    private boolean makeAdvert() {
        int place = neighbours.firstToServe(time);
        if (place == NONE) {
            return false;
        }
        int origin = neighbours.firstToSend(place, time);
        if (origin == NONE) {
            return false;
        }
        neighbours.sent(place, origin, time);
        last.makeAdvert(neighbours.portAt(place), neighbours.routerAt(place), origin,
                adverts.numberOf(origin), adverts.bodyOf(origin));
        return true;
    }

    /** The known adverts, at most one of each router; without one its number and body are 0. */
    private static final class Adverts {
        private final int[] numbers = new int[ROUTERS];
        private final int[] bodies = new int[ROUTERS];

        boolean has(int origin) {
            return numbers[origin] != 0;
        }

        int numberOf(int origin) {
            return numbers[origin];
        }

        int bodyOf(int origin) {
            return bodies[origin];
        }

        void put(int origin, int number, int body) {
            numbers[origin] = number;
            bodies[origin] = body;
        }

        void remove(int origin) {
            put(origin, 0, 0);
        }

        long allOrigins() {
            long origins = 0L;
            for (int origin = 0; origin < ROUTERS; origin++) {
                if (numbers[origin] != 0) {
                    origins |= 1L << origin;
                }
            }
            return origins;
        }
    }

    /** The routers that are heard, each in a place of its own for each port, and what is due to them. */
    private static final class Neighbours {
        private final int[] standings = new int[PLACES];
        private final int[] ports = new int[PLACES];
        private final int[] routers = new int[PLACES];
        private final int[] greetedAt = new int[PLACES];
        private final long[] owed = new long[PLACES];
        // Of the owed ones those that wait for no time to go by; sentAt counts for the others alone.
        private final long[] unsent = new long[PLACES];
        private final int[] sentAt = new int[PLACES * ROUTERS];

        /** The place where a router is heard on a port, or NONE. */
        private int heardPlace(int port, int router) {
            for (int place = 0; place < PLACES; place++) {
                if (standings[place] != UNHEARD && ports[place] == port && routers[place] == router) {
                    return place;
                }
            }
            return NONE;
        }

        int friendPlace(int port, int router) {
            int place = heardPlace(port, router);
            return place != NONE && standings[place] == FRIEND ? place : NONE;
        }

        /** The place where a router is heard or can be from now on; NONE if all are taken. */
        int placeFor(int port, int router) {
            int place = heardPlace(port, router);
            return place != NONE ? place : takeFreePlace(port, router);
        }

        private int takeFreePlace(int port, int router) {
            for (int place = 0; place < PLACES; place++) {
                if (standings[place] == UNHEARD) {
                    standings[place] = HEARD;
                    ports[place] = port;
                    routers[place] = router;
                    return place;
                }
            }
            return NONE;
        }

        int greeted(int place, int time, boolean names, long knownOrigins) {
            greetedAt[place] = time;
            if (!names) {
                standings[place] = HEARD;
                oweExactly(place, 0L);
            } else if (standings[place] != FRIEND) {
                standings[place] = FRIEND;
                oweExactly(place, knownOrigins);
            }
            return standings[place];
        }

        private void oweExactly(int place, long origins) {
            owed[place] = origins;
            unsent[place] = origins;
        }

        private void drop(int place) {
            standings[place] = UNHEARD;
            oweExactly(place, 0L);
        }

        void dropPort(int port) {
            for (int place = 0; place < PLACES; place++) {
                if (standings[place] != UNHEARD && ports[place] == port) {
                    drop(place);
                }
            }
        }

        void dropSilent(int time) {
            for (int place = 0; place < PLACES; place++) {
                if (standings[place] != UNHEARD && time - greetedAt[place] >= HEARD_FOR) {
                    drop(place);
                }
            }
        }

        void owe(int place, int origin) {
            owed[place] |= 1L << origin;
            unsent[place] |= 1L << origin;
        }

        /** Owes it to all friends, but not to the place from which it came (NONE: from nowhere). */
        void oweToFriendsBut(int source, int origin) {
            for (int place = 0; place < PLACES; place++) {
                if (standings[place] == FRIEND && place != source) {
                    owe(place, origin);
                }
            }
        }

        boolean settle(int place, int origin) {
            long bit = 1L << origin;
            boolean was = (owed[place] & bit) != 0L;
            owed[place] &= ~bit;
            unsent[place] &= ~bit;
            return was;
        }

        void settleAll(int origin) {
            for (int place = 0; place < PLACES; place++) {
                settle(place, origin);
            }
        }

        void sent(int place, int origin, int time) {
            unsent[place] &= ~(1L << origin);
            sentAt[place * ROUTERS + origin] = time;
        }

        private boolean isToBeSent(int place, int origin, int time) {
            long bit = 1L << origin;
            if ((owed[place] & bit) == 0L) {
                return false;
            }
            return (unsent[place] & bit) != 0L
                    || time - sentAt[place * ROUTERS + origin] >= SENT_AGAIN_AFTER;
        }

        /** The least router whose advert is to be sent to this place, or NONE. */
        int firstToSend(int place, int time) {
            for (int origin = 0; origin < ROUTERS; origin++) {
                if (isToBeSent(place, origin, time)) {
                    return origin;
                }
            }
            return NONE;
        }

        /** The place of the least port, there of the least router, to which any advert is to be sent, or NONE. */
        int firstToServe(int time) {
            int first = NONE;
            int firstRank = PORTS * ROUTERS;
            for (int place = 0; place < PLACES; place++) {
                int rank = ports[place] * ROUTERS + routers[place];
                if (owed[place] != 0L && rank < firstRank && firstToSend(place, time) != NONE) {
                    first = place;
                    firstRank = rank;
                }
            }
            return first;
        }

        int portAt(int place) {
            return ports[place];
        }

        int routerAt(int place) {
            return routers[place];
        }

        long heardOn(int port) {
            long heard = 0L;
            for (int place = 0; place < PLACES; place++) {
                if (standings[place] != UNHEARD && ports[place] == port) {
                    heard |= 1L << routers[place];
                }
            }
            return heard;
        }

        int standingOf(int port, int router) {
            int place = heardPlace(port, router);
            return place == NONE ? UNHEARD : standings[place];
        }

        int owedTo(int port, int router) {
            int place = heardPlace(port, router);
            return place == NONE ? 0 : Long.bitCount(owed[place]);
        }

        int atLeast(int standing) {
            int found = 0;
            for (int place = 0; place < PLACES; place++) {
                if (standings[place] >= standing) {
                    found++;
                }
            }
            return found;
        }
    }

    /** The thanks that are to be sent, in a ring, the oldest one at first. */
    private static final class ThanksQueue {
        private final int[] ports = new int[WAITING_THANKS];
        private final int[] routers = new int[WAITING_THANKS];
        private final int[] origins = new int[WAITING_THANKS];
        private final int[] numbers = new int[WAITING_THANKS];
        private int first;
        private int size;

        boolean isEmpty() {
            return size == 0;
        }

        void add(int port, int router, int origin, int number) {
            if (size >= WAITING_THANKS) {
                return;
            }
            int index = (first + size) % WAITING_THANKS;
            ports[index] = port;
            routers[index] = router;
            origins[index] = origin;
            numbers[index] = number;
            size++;
        }

        /** To be called only when the queue is not empty. */
        void moveFirstTo(Message message) {
            message.makeThanks(ports[first], routers[first], origins[first], numbers[first]);
            first = (first + 1) % WAITING_THANKS;
            size--;
        }
    }

    /** The message that was made last, used again for each one. */
    private static final class Message {
        private static final int PARTS = 6;

        private final int[] parts = new int[PARTS];
        private long names;

        boolean isMade() {
            return parts[0] != NO_MESSAGE;
        }

        int part(int what) {
            return parts[what];
        }

        long namedRouters() {
            return names;
        }

        void makeGreeting(int port, long heard) {
            address(GREETING_MESSAGE, port, NONE);
            fill(NONE, 0, 0);
            names = heard;
        }

        void makeThanks(int port, int router, int origin, int number) {
            address(THANKS_MESSAGE, port, router);
            fill(origin, number, 0);
            names = 0L;
        }

        void makeAdvert(int port, int router, int origin, int number, int body) {
            address(ADVERT_MESSAGE, port, router);
            fill(origin, number, body);
            names = 0L;
        }

        private void address(int kind, int port, int router) {
            parts[0] = kind;
            parts[1] = port;
            parts[2] = router;
        }

        private void fill(int origin, int number, int body) {
            parts[3] = origin;
            parts[4] = number;
            parts[5] = body;
        }
    }
}
