/** Promise 1: what a new object is. */
public final class Promise01NewObjectTest {
    public static void main(String[] args) {
        Check check = new Check("Promise 1");
        noRequests(check);
        noFacts(check);
        bulk(check);
        patience(check);
        retries(check);
        clock(check);
        nothingElse(check);
        twoObjectsShareNothing(check);
        check.end();
    }

    private static void noRequests(Check check) {
        check.sentence("No requests");
        FederationWire x = new FederationWire();
        check.due("requests", x.count(0), 0);
        check.due("told(0, 0)", x.told(0, 0), -1);
        check.due("row(0, 0, 0)", x.row(0, 0, 0), -1);
        check.due("joined(0, 0, 0)", x.joined(0, 0, 0), -1);
        check.due("the first one", x.ask(0, false), 0);
        check.due("requests", x.count(0), 1);
        check.due("told(0, 0)", x.told(0, 0), 0);
    }

    private static void noFacts(Check check) {
        check.sentence("no facts");
        FederationWire x = new FederationWire();
        check.due("facts", x.count(1), 0);
        check.due("ASK", Talk.answer(x, Talk.ASK, 0, 0, 0), Talk.rowsFrame(0, 0, 0, 0, 0, 0));
        check.due("the first one", x.fact(0, 0), 1);
        check.due("ASK", Talk.answer(x, Talk.ASK, 0, 1, 0), Talk.rowsFrame(0, 1, 0, 0, 0, 1));
    }

    private static void bulk(Check check) {
        check.sentence("BULK 4");
        FederationWire x = new FederationWire();
        x.up(0);
        Talk.askFor(x, 0, 4);
        check.due("4 keys", Talk.drain(x, 0), Talk.text(Talk.frame(1, 0, 0, 1, 2, 3, 4)));
        Talk.askFor(x, 0, 5);
        check.due("5 keys", Talk.drain(x, 0), Talk.text(Talk.frame(1, 1, 0, 1, 2, 3, 4)));
        check.due("setting(0, 1)", x.setting(0, 1), 4);
    }

    private static void patience(Check check) {
        check.sentence("PATIENCE 10");
        FederationWire x = new FederationWire();
        Talk.askFor(x, 0, 1);
        x.tick(9);
        check.due("after 9 seconds", x.told(0, 6), 0);
        x.tick(1);
        check.due("after 10 seconds", x.told(0, 6), 1);
        check.due("setting(1, 1)", x.setting(1, 1), 10);
    }

    private static void retries(Check check) {
        check.sentence("RETRIES 2");
        FederationWire x = new FederationWire();
        Talk.askFor(x, 0, 1);
        check.due("29 seconds", x.tick(29), 0);
        check.due("repeated", x.told(0, 6), 2);
        check.due("a 30th", x.tick(1), 1);
        check.due("setting(2, 1)", x.setting(2, 1), 2);
    }

    private static void clock(Check check) {
        check.sentence("the clock is 0");
        FederationWire x = new FederationWire();
        check.due("count(3)", x.count(3), 0);
        x.tick(1);
        check.due("count(3)", x.count(3), 1);
    }

    private static void nothingElse(Check check) {
        check.sentence("FederationWire()");
        FederationWire x = new FederationWire();
        check.due("counts", Talk.counts(x), "0 0 0 0 0 0 0 0");
        for (int line = 0; line < 5; line++) {
            check.due("line(" + line + ", 0)", x.line(line, 0), line == 4 ? 1 : 0);
            check.due("line(" + line + ", 1)", x.line(line, 1), 0);
            check.due("line(" + line + ", 2)", x.line(line, 2), 0);
        }
        for (int house = 0; house < 4; house++) {
            check.due("estimate(" + house + ")", x.estimate(house), 1000);
        }
    }

    private static void twoObjectsShareNothing(Check check) {
        check.sentence("A new object");
        FederationWire one = new FederationWire();
        FederationWire other = new FederationWire();
        one.fact(1, 1);
        one.bind(1, 1);
        one.up(0);
        one.ask(0, false);
        one.bind(1, 1);
        one.tick(5);
        one.setting(0, 1);
        one.loop(0, 7);
        one.octet(0, (byte) 126);
        FederationWire third = new FederationWire();
        for (FederationWire x : new FederationWire[] {other, third}) {
            check.due("counts", Talk.counts(x), "0 0 0 0 0 0 0 0");
            check.due("line", x.line(0, 0) + x.line(0, 1) + x.line(0, 2), 0);
            check.due("estimate", x.estimate(0), 1000);
            check.due("BULK", x.setting(0, 4), 4);
        }
        check.due("the first one", Talk.counts(one), "1 1 1 5 0 0 0 1");
    }
}
