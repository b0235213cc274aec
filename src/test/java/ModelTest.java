/** All promises: many runs of 500 mixed calls, each answer compared with that of the model. */
public final class ModelTest {
    private static final int RUNS = 4000;
    private static final int CALLS = 500;

    private final int run;
    private final int itself;
    private final int ports;
    private final int routers;
    private final int longestRun;
    private final Bench x;
    private final Model m;
    private long seed;

    private ModelTest(int run) {
        this.run = run;
        this.seed = 1000003L * (run + 1);
        this.ports = 1 + pick(8);
        this.routers = new int[] {2, 3, 5, 10, 30, 64}[pick(6)];
        this.longestRun = new int[] {3, 8, 20, 50, 90}[pick(5)];
        this.itself = pick(20) == 0 ? -3 : 64 - 1 - pick(routers);
        this.x = new Bench(itself);
        this.m = new Model(itself);
    }

    public static void main(String[] args) {
        for (int run = 0; run < RUNS; run++) {
            new ModelTest(run).go();
        }
        Check.end("ModelTest");
    }

    /** A row of numbers that is the same each time. */
    private int pick(int bound) {
        seed = seed * 6364136223846793005L + 1442695040888963407L;
        return (int) ((seed >>> 33) % bound);
    }

    private int anyPort() {
        return pick(ports);
    }

    /** Counted from above, so that router 63 comes up in all runs. */
    private int anyRouter() {
        return 63 - pick(routers);
    }

    private int anyOther() {
        int router = anyRouter();
        return router == m.itself ? (router + 1) % 64 : router;
    }

    private int anyNumber(int origin) {
        int known = Math.max(m.known(origin), 1);
        int near = known - 2 + pick(5);
        return pick(60) == 0 ? 1000000000 - pick(2) : Math.min(Math.max(near, 1), 1000000000);
    }

    private void go() {
        for (int port = 0; port < ports; port++) {
            same("port", x.port(port, true), m.port(port, true));
        }
        for (int call = ports; call < CALLS; call++) {
            if (pick(3) == 0) {
                look();
            } else {
                act();
            }
        }
    }

    private void act() {
        int kind = pick(100);
        if (kind < 3) {
            switchPort();
        } else if (kind < 25) {
            greet();
        } else if (kind < 45) {
            bringAdvert();
        } else if (kind < 57) {
            bringThanks();
        } else if (kind < 61) {
            int body = pick(1000);
            same("own", x.own(body), m.own(body));
        } else if (kind < 64) {
            int origin = pick(3) == 0 ? m.itself : anyRouter();
            same("forget", x.forget(origin), m.forget(origin));
        } else if (kind < 72) {
            int ticks = 1 + pick(longestRun);
            same("run", x.run(ticks), m.run(ticks));
        } else {
            same("next", x.next(), m.next());
        }
    }

    private void switchPort() {
        int port = anyPort();
        boolean on = pick(3) != 0;
        same("port", x.port(port, on), m.port(port, on));
    }

    private void greet() {
        int port = anyPort();
        int from = anyOther();
        boolean names = pick(5) != 0;
        if (m.on[port]) {
            same("greeting", x.greeting(port, from, names), m.greeting(port, from, names));
        } else {
            Check.illegalState("greeting", () -> x.greeting(port, from, names));
        }
    }

    private void bringAdvert() {
        int port = anyPort();
        int from = anyOther();
        int origin = pick(4) == 0 ? m.itself : anyRouter();
        int number = anyNumber(origin);
        int body = pick(1000) - 500;
        if (m.on[port]) {
            same("advert", x.advert(port, from, origin, number, body), m.advert(port, from, origin, number, body));
        } else {
            Check.illegalState("advert", () -> x.advert(port, from, origin, number, body));
        }
    }

    private void bringThanks() {
        int port = anyPort();
        int from = anyOther();
        int origin = pick(4) == 0 ? m.itself : anyRouter();
        int number = pick(4) == 0 ? anyNumber(origin) : Math.min(Math.max(m.known(origin), 1), 1000000000);
        if (m.on[port]) {
            same("thanks", x.thanks(port, from, origin, number), m.thanks(port, from, origin, number));
        } else {
            Check.illegalState("thanks", () -> x.thanks(port, from, origin, number));
        }
    }

    private void look() {
        int port = anyPort();
        int router = anyRouter();
        switch (pick(8)) {
            case 0 -> lookAtMessage();
            case 1 -> same("named", x.named(), m.named);
            case 2 -> same("state", x.state(port, router), m.state(port, router));
            case 3 -> same("known", x.known(router), m.known(router));
            case 4 -> same("body", x.body(router), m.body(router));
            case 5 -> same("due", x.due(port, router), m.due(port, router));
            case 6 -> same("count", x.count(router % 2 == 0), m.count(router % 2 == 0));
            default -> same("time", x.time(), m.time);
        }
    }

    private void lookAtMessage() {
        int what = pick(6);
        if (m.last == null) {
            Check.illegalState("message", () -> x.message(what));
        } else {
            same("message", x.message(what), m.last[what]);
        }
    }

    private void same(String call, long got, long want) {
        Check.same("run " + run + ": " + call, got, want);
    }

    private void same(String call, boolean got, boolean want) {
        Check.same("run " + run + ": " + call, got, want);
    }
}
