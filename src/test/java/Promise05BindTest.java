/** Promise 5: bindings for the next request. */
public final class Promise05BindTest {
    public static void main(String[] args) {
        Check check = new Check();
        FederationWire x = new FederationWire();
        check.due("bind(-1)", x.bind(-1, 0), -1);
        check.due("bind(256)", x.bind(256, 0), -1);
        check.due("bind(MIN)", x.bind(Integer.MIN_VALUE, 0), -1);
        check.due("none", x.count(2), 0);
        check.due("bind(0)", x.bind(0, Integer.MIN_VALUE), 1);
        check.due("bind(255)", x.bind(255, Integer.MAX_VALUE), 2);
        check.due("bind(0) again", x.bind(0, -1), 3);
        for (int i = 4; i <= 20; i++) {
            check.due("bind", x.bind(i, i), i);
        }
        check.due("bind: full", x.bind(1, 1), -3);
        check.due("bind: bad before full", x.bind(256, 1), -1);
        check.due("there are", x.count(2), 20);
        check.due("ask", x.ask(0, true), 0);
        check.due("keys", x.told(0, 7), 19);
        check.due("bind", x.bind(1, 1), 1);
        x.setting(2, 0);
        x.tick(10);
        check.due("tag", x.joined(0, 0, 0), Integer.MIN_VALUE);
        check.due("tag", x.joined(0, 1, 0), Integer.MAX_VALUE);
        check.due("tag", x.joined(0, 2, 0), -1);
        check.due("tag", x.joined(0, 19, 0), 20);
        check.end();
    }
}
