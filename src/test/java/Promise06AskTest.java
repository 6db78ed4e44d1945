/** Promise 6: requests, and what they send. */
public final class Promise06AskTest {
    public static void main(String[] args) {
        Check check = new Check("Promise 6");
        toAHouse(check);
        bindingsGo(check);
        firstAskIsSent(check);
        withoutKeys(check);
        noSuchHouse(check);
        full(check);
        bindingsStay(check);
        keysInParts(check);
        check.end();
    }

    private static void toAHouse(Check check) {
        check.sentence("A request to a house ..: its number");
        FederationWire x = new FederationWire();
        for (int house = 0; house < 4; house++) {
            x.bind(1, 1);
            check.due("ask(" + house + ")", x.ask(house, house % 2 == 0), house);
            check.due("its house", x.told(house, 0), house);
        }
    }

    private static void bindingsGo(Check check) {
        check.sentence("with the bindings that there are (none are there then)");
        FederationWire x = new FederationWire();
        x.bind(1, 1);
        x.bind(2, 2);
        x.ask(0, false);
        check.due("bindings", x.count(2), 0);
        check.due("its keys", x.told(0, 7), 2);
        check.due("another request", x.ask(0, false), 1);
        check.due("its keys", x.told(1, 7), 0);
        for (int i = 1; i <= 20; i++) {
            check.due("bind", x.bind(i, i), i);
        }
        check.due("a third", x.ask(0, false), 2);
        check.due("bindings", x.count(2), 0);
        check.due("its keys", x.told(2, 7), 20);
    }

    private static void firstAskIsSent(Check check) {
        check.sentence("its first ASK is sent");
        FederationWire x = new FederationWire();
        x.up(3);
        Talk.askFor(x, 3, 1);
        check.due("out row", Talk.drain(x, 3), Talk.text(Talk.frame(1, 0, 0, 1)));
        check.due("told", Talk.told(x, 0), "3 0 0 0 0 0 0 1");
        Talk.askFor(x, 2, 1);
        check.due("on a line that is not up", x.count(5), 1);
        check.due("told", Talk.told(x, 1), "2 0 0 0 0 0 0 1");
        check.due("line 3", x.line(3, 1), 0);
    }

    private static void withoutKeys(Check check) {
        check.sentence("(without keys it is DONE at once, and counts for no ESTIMATE)");
        FederationWire x = new FederationWire();
        x.up(2);
        for (int silent = 0; silent < 2; silent++) {
            check.due("ask", x.ask(2, silent == 1), silent);
            check.due("told", Talk.told(x, silent), "2 1 0 0 0 -1 0 0");
            check.due("joined", x.joined(silent, 0, 0), -2);
            check.due("out row", x.line(2, 1), 0);
            check.due("estimate", x.estimate(2), 1000);
        }
        check.due("it never fails", x.tick(1000), 0);
        check.due("nothing is lost", x.count(5), 0);
        check.due("it waits for nothing", Talk.say(x, 2, Talk.CANT, 0, 255), 14);
        check.due("it waits for nothing", Talk.say(x, 2, Talk.ROWS, 0, 0, 0), 12);
        x.bind(0, 0);
        check.due("with one key", x.ask(2, false), 2);
        check.due("told", Talk.told(x, 2), "2 0 0 0 0 0 0 1");
        check.due("out row", x.line(2, 1), 7);
    }

    private static void noSuchHouse(Check check) {
        check.sentence("BAD: no such house");
        FederationWire x = new FederationWire();
        for (int house : new int[] {-1, 4, 5, Integer.MAX_VALUE, Integer.MIN_VALUE}) {
            check.due("ask(" + house + ")", x.ask(house, false), -1);
            check.due("ask(" + house + ")", x.ask(house, true), -1);
        }
        check.due("no request", x.count(0), 0);
        check.due("ask(0)", x.ask(0, false), 0);
        check.due("ask(3)", x.ask(3, false), 1);
    }

    private static void full(Check check) {
        check.sentence("FULL");
        FederationWire x = new FederationWire();
        for (int i = 0; i < 24; i++) {
            check.due("ask", x.ask(i % 4, false), i);
        }
        check.due("a 25th", x.ask(0, false), -3);
        check.due("once more", x.ask(3, true), -3);
        check.due("requests", x.count(0), 24);
        check.due("bad and full", x.ask(4, false), -1);
        check.due("bad and full", x.ask(-1, false), -1);
    }

    private static void bindingsStay(Check check) {
        check.sentence("(bindings stay with both)");
        FederationWire x = new FederationWire();
        x.up(0);
        x.bind(5, 50);
        x.ask(4, false);
        check.due("with BAD", x.count(2), 1);
        check.due("nothing is sent", x.line(0, 1) + x.count(5), 0);
        check.due("ask", x.ask(0, false), 0);
        check.due("out row", Talk.drain(x, 0), Talk.text(Talk.frame(1, 0, 0, 5)));
        for (int i = 1; i < 24; i++) {
            x.ask(0, false);
        }
        x.bind(6, 60);
        x.bind(7, 70);
        check.due("a 25th", x.ask(0, false), -3);
        check.due("with FULL", x.count(2), 2);
        check.due("nothing is sent", x.line(0, 1) + x.count(5), 0);
        check.due("a third binding", x.bind(8, 80), 3);
    }

    private static void keysInParts(Check check) {
        check.sentence("A request to a house with the bindings that there are");
        FederationWire x = new FederationWire();
        x.up(0);
        x.setting(0, 2);
        Talk.bindAll(x, 9, 7, 9, 255, 7, 0, 126);
        check.due("ask", x.ask(0, false), 0);
        check.due("told", Talk.told(x, 0), "0 0 0 0 0 0 0 5");
        check.due("part", Talk.drain(x, 0), Talk.text(Talk.frame(1, 0, 0, 9, 7)));
        check.due("rows, more", Talk.say(x, 0, 2, 0, Talk.rowsBody(0, 1, 9, 0, 8)), 2);
        check.due("more", Talk.drain(x, 0), Talk.text(Talk.frame(3, 0, 1, 8)));
        check.due("rows, more", Talk.say(x, 0, 2, 0, Talk.rowsBody(1, 1, 7, 8, 3)), 2);
        check.due("more", Talk.drain(x, 0), Talk.text(Talk.frame(3, 0, 2, 11)));
        check.due("rows", Talk.say(x, 0, 2, 0, Talk.rowsBody(2, 0, 7, 11, 1)), 2);
        check.due("part", Talk.drain(x, 0), Talk.text(Talk.frame(1, 0, 3, 255, 0)));
        check.due("rows, more", Talk.say(x, 0, 2, 0, Talk.rowsBody(3, 1, 77, 1, 1)), 2);
        check.due("more, of this part", Talk.drain(x, 0), Talk.text(Talk.frame(3, 0, 4, 1)));
        check.due("rows", Talk.say(x, 0, 2, 0, Talk.rowsBody(4, 0, 0, 0, 0)), 2);
        check.due("last part", Talk.drain(x, 0), Talk.text(Talk.frame(1, 0, 5, 126)));
        check.due("waits", x.told(0, 1), 0);
        check.due("rows", Talk.say(x, 0, 2, 0, Talk.rowsBody(5, 0, 126, 200, 1)), 2);
        check.due("told", Talk.told(x, 0), "0 1 0 14 25 5 0 5");
        check.due("out row", Talk.drain(x, 0), "");
    }
}
