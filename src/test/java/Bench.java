/**
 * A DeskBench whose calls are counted. The document leaves free what an object answers after its
 * 512th call, so a test that asks for more ends at once instead of looking at such an answer.
 */
final class Bench {
    private static final int CALLS = 512;

    private final DeskBench bench;
    private int calls = 0;

    Bench(int itself) {
        bench = new DeskBench(itself);
    }

    private DeskBench counted() {
        calls++;
        if (calls > CALLS) {
            throw new AssertionError("the test makes more than 512 calls on one object");
        }
        return bench;
    }

    boolean port(int port, boolean on) {
        return counted().port(port, on);
    }

    int greeting(int port, int from, boolean names) {
        return counted().greeting(port, from, names);
    }

    int advert(int port, int from, int origin, int number, int body) {
        return counted().advert(port, from, origin, number, body);
    }

    boolean thanks(int port, int from, int origin, int number) {
        return counted().thanks(port, from, origin, number);
    }

    int own(int body) {
        return counted().own(body);
    }

    boolean forget(int origin) {
        return counted().forget(origin);
    }

    int run(int n) {
        return counted().run(n);
    }

    boolean next() {
        return counted().next();
    }

    int message(int what) {
        return counted().message(what);
    }

    long named() {
        return counted().named();
    }

    int state(int port, int router) {
        return counted().state(port, router);
    }

    int known(int origin) {
        return counted().known(origin);
    }

    int body(int origin) {
        return counted().body(origin);
    }

    int due(int port, int router) {
        return counted().due(port, router);
    }

    int count(boolean friends) {
        return counted().count(friends);
    }

    int time() {
        return counted().time();
    }
}
