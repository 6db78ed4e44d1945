/** Promise 5: bindings for the next request. */
public final class Promise05BindTest {
    public static void main(String[] args) {
        Check check = new Check("Promise 5");
        howMany(check);
        bad(check);
        full(check);
        badWhenFull(check);
        tags(check);
        nextRequest(check);
        check.end();
    }

    private static void howMany(Check check) {
        check.sentence("A binding for the next request: how many there are");
        FederationWire x = new FederationWire();
        check.due("none", x.count(2), 0);
        check.due("one", x.bind(7, 1), 1);
        check.due("the same again", x.bind(7, 1), 2);
        check.due("another", x.bind(8, 1), 3);
        check.due("count", x.count(2), 3);
    }

    private static void bad(Check check) {
        check.sentence("BAD: the key is not 0 .. 255");
        FederationWire x = new FederationWire();
        for (int key : new int[] {-1, 256, Integer.MIN_VALUE, Integer.MAX_VALUE}) {
            check.due("bind(" + key + ")", x.bind(key, 0), -1);
            check.due("none", x.count(2), 0);
        }
        check.due("bind(0)", x.bind(0, 0), 1);
        check.due("bind(255)", x.bind(255, 0), 2);
        x.up(0);
        x.ask(0, false);
        check.due("keys", Talk.drain(x, 0), Talk.text(Talk.frame(1, 0, 0, 0, 255)));
    }

    private static void full(Check check) {
        check.sentence("FULL: there are 20");
        FederationWire x = new FederationWire();
        for (int i = 1; i <= 20; i++) {
            check.due("bind " + i, x.bind(100 + i, i), i);
        }
        check.due("a 21st", x.bind(1, 21), -3);
        check.due("a 21st, with a key that is there", x.bind(101, 21), -3);
        check.due("there are", x.count(2), 20);
        x.setting(2, 0);
        x.ask(0, true);
        x.tick(10);
        check.due("keys", x.told(0, 7), 20);
        check.due("the first stays", x.joined(0, 0, 0), 1);
        check.due("the 20th stays", x.joined(0, 19, 0), 20);
        check.due("no 21st", x.joined(0, 20, 0), -2);
        FederationWire y = new FederationWire();
        for (int i = 1; i <= 20; i++) {
            check.due("20 bindings with one key", y.bind(3, i), i);
        }
        check.due("a 21st", y.bind(3, 21), -3);
    }

    private static void badWhenFull(Check check) {
        check.sentence("BAD: the key is not 0 .. 255; FULL: there are 20 (both)");
        FederationWire x = new FederationWire();
        for (int i = 1; i <= 20; i++) {
            x.bind(i, i);
        }
        check.due("bind(-1)", x.bind(-1, 1), -1);
        check.due("bind(0)", x.bind(0, 1), -3);
        check.due("bind(255)", x.bind(255, 1), -3);
        check.due("bind(256)", x.bind(256, 1), -1);
    }

    private static void tags(Check check) {
        check.sentence("a TAG (any int)");
        int[] tags = {Integer.MIN_VALUE, -3, -2, -1, 0, 1, 256, Integer.MAX_VALUE};
        FederationWire x = new FederationWire();
        for (int i = 0; i < tags.length; i++) {
            check.due("bind", x.bind(1, tags[i]), i + 1);
        }
        x.up(0);
        x.ask(0, false);
        Talk.say(x, 0, Talk.ROWS, 0, 0, 0, 1, 9);
        for (int i = 0; i < tags.length; i++) {
            check.due("tag " + i, x.joined(0, i, 0), tags[i]);
        }
    }

    private static void nextRequest(Check check) {
        check.sentence("A binding for the next request");
        FederationWire x = new FederationWire();
        x.bind(1, 1);
        x.bind(2, 2);
        x.ask(0, false);
        check.due("the first of another", x.bind(3, 3), 1);
        x.ask(0, false);
        check.due("keys of the first request", x.told(0, 7), 2);
        check.due("keys of the other", x.told(1, 7), 1);
        x.up(0);
        check.due("out row", Talk.drain(x, 0),
                Talk.text(Talk.frame(1, 0, 0, 1, 2), Talk.frame(1, 1, 0, 3)));
    }
}
