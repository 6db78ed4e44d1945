/** Promise 6: requests, and what they send. */
public final class Promise06AskTest {
    public static void main(String[] args) {
        Check check = new Check();
        wrongHouses(check);
        keysInParts(check);
        withoutKeys(check);
        full(check);
        onALineThatIsDown(check);
        check.end();
    }

    private static void wrongHouses(Check check) {
        FederationWire x = new FederationWire();
        x.bind(1, 1);
        check.due("ask(-1)", x.ask(-1, false), -1);
        check.due("ask(4)", x.ask(4, true), -1);
        check.due("ask(MAX)", x.ask(Integer.MAX_VALUE, true), -1);
        check.due("bindings stay", x.count(2), 1);
        check.due("no request", x.count(0), 0);
        check.due("ask(3)", x.ask(3, true), 0);
        check.due("bindings are gone", x.count(2), 0);
    }

    private static void keysInParts(Check check) {
        FederationWire x = new FederationWire();
        x.up(0);
        x.setting(0, 2);
        Talk.bindAll(x, 9, 7, 9, 255, 7, 0, 126);
        check.due("ask", x.ask(0, false), 0);
        check.due("told", Talk.told(x, 0), "0 0 0 0 0 0 0 5");
        check.due("part", Talk.drain(x, 0), Talk.text(Talk.frame(1, 0, 0, 9, 7)));
        check.due("rows, more", Talk.say(x, 0, 2, 0, Talk.rowsBody(0, 1, 9, 0, 8)), 2);
        check.due("more", Talk.drain(x, 0), Talk.text(Talk.frame(3, 0, 1, 8)));
        check.due("rows, more", Talk.say(x, 0, 2, 0, Talk.rowsBody(1, 1, 7, 8, 3)), 2);
        check.due("more", Talk.drain(x, 0), Talk.text(Talk.frame(3, 0, 2, 11)));
        check.due("rows", Talk.say(x, 0, 2, 0, Talk.rowsBody(2, 0, 7, 11, 1)), 2);
        check.due("part", Talk.drain(x, 0), Talk.text(Talk.frame(1, 0, 3, 255, 0)));
        check.due("rows, more", Talk.say(x, 0, 2, 0, Talk.rowsBody(3, 1, 77, 1, 1)), 2);
        check.due("more, of this part", Talk.drain(x, 0), Talk.text(Talk.frame(3, 0, 4, 1)));
        check.due("rows", Talk.say(x, 0, 2, 0, Talk.rowsBody(4, 0, 0, 0, 0)), 2);
        check.due("last part", Talk.drain(x, 0), Talk.text(Talk.frame(1, 0, 5, 126)));
        check.due("waits", x.told(0, 1), 0);
        check.due("rows", Talk.say(x, 0, 2, 0, Talk.rowsBody(5, 0, 126, 200, 1)), 2);
        check.due("told", Talk.told(x, 0), "0 1 0 14 25 5 0 5");
        check.due("out row", Talk.drain(x, 0), "");
    }

    private static void withoutKeys(Check check) {
        FederationWire x = new FederationWire();
        x.up(2);
        check.due("ask", x.ask(2, false), 0);
        check.due("told", Talk.told(x, 0), "2 1 0 0 0 -1 0 0");
        check.due("out row", x.line(2, 1), 0);
        check.due("estimate", x.estimate(2), 1000);
        check.due("ask", x.ask(2, true), 1);
        check.due("told", Talk.told(x, 1), "2 1 0 0 0 -1 0 0");
        check.due("it never fails", x.tick(1000), 0);
        check.due("lost", x.count(5), 0);
        check.due("it waits for nothing", Talk.say(x, 2, Talk.CANT, 0, 255), 14);
    }

    private static void full(Check check) {
        FederationWire x = new FederationWire();
        for (int i = 0; i < 24; i++) {
            check.due("ask", x.ask(i % 4, false), i);
        }
        x.bind(1, 1);
        check.due("ask: full", x.ask(0, false), -3);
        check.due("ask: bad before full", x.ask(4, false), -1);
        check.due("bindings stay", x.count(2), 1);
        check.due("requests", x.count(0), 24);
    }

    private static void onALineThatIsDown(Check check) {
        FederationWire x = new FederationWire();
        x.bind(1, 1);
        check.due("ask", x.ask(0, false), 0);
        check.due("lost", x.count(5), 1);
        check.due("told", Talk.told(x, 0), "0 0 0 0 0 0 0 1");
    }
}
