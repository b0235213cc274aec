/** What the tests share: answers are compared, the wrong ones printed and counted. */
final class Check {
    /** A call on an object of the class. */
    interface Call {
        void make();
    }

    private static int made = 0;
    private static int wrong = 0;

    private Check() {
    }

    static void same(String what, long got, long want) {
        made++;
        if (got != want) {
            wrong++;
            System.out.println(what + " answered " + got + ", due is " + want);
        }
    }

    static void same(String what, boolean got, boolean want) {
        same(what, got ? 1L : 0L, want ? 1L : 0L);
    }

    static void same(String what, String got, String want) {
        made++;
        if (!got.equals(want)) {
            wrong++;
            System.out.println(what + " answered " + got + ", due is " + want);
        }
    }

    static void illegalArgument(String what, Call call) {
        same(what, thrown(call), "IllegalArgumentException");
    }

    static void illegalState(String what, Call call) {
        same(what, thrown(call), "IllegalStateException");
    }

    /** The exact class of what a call throws: a class below the document's one would be another thing. */
    static String thrown(Call call) {
        try {
            call.make();
        } catch (RuntimeException e) {
            return e.getClass().getSimpleName();
        }
        return "nothing";
    }

    /** The six parts of the last message and whom it names, as one text. */
    static String lastMessage(Bench x) {
        StringBuilder text = new StringBuilder();
        for (int what = 0; what < 6; what++) {
            text.append(x.message(what)).append(' ');
        }
        return text.append("names ").append(x.named()).toString();
    }

    /** Makes the next message, which is to be this one. */
    static void sends(String what, Bench x, int kind, int port, int to, int origin, int number, int body) {
        same(what + ": next()", x.next(), true);
        long named = kind == 1 ? x.named() : 0L;
        same(what, lastMessage(x), kind + " " + port + " " + to + " " + origin + " " + number + " " + body
                + " names " + named);
    }

    static void sendsGreeting(String what, Bench x, int port, long named) {
        sends(what, x, 1, port, -1, -1, 0, 0);
        same(what + ": named()", x.named(), named);
    }

    static void sendsThanks(String what, Bench x, int port, int to, int origin, int number) {
        sends(what, x, 2, port, to, origin, number, 0);
    }

    static void sendsAdvert(String what, Bench x, int port, int to, int origin, int number, int body) {
        sends(what, x, 3, port, to, origin, number, body);
    }

    static void sendsNothing(String what, Bench x) {
        same(what + ": next()", x.next(), false);
    }

    /** Makes all messages that are to be sent now: how many there were. */
    static int sendAll(Bench x) {
        for (int sent = 0; sent < 2000; sent++) {
            if (!x.next()) {
                return sent;
            }
        }
        return -1;
    }

    /** A new object with its first ports on. */
    static Bench withPorts(int itself, int ports) {
        Bench x = new Bench(itself);
        for (int port = 0; port < ports; port++) {
            x.port(port, true);
        }
        return x;
    }

    static void end(String test) {
        System.out.println(test + ": " + made + " answers looked at, " + wrong + " not as due");
        if (wrong != 0) {
            System.exit(1);
        }
    }
}
