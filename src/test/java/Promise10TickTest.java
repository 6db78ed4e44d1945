/** Promise 10: seconds go by (what happens in them: TermsClockTest). */
public final class Promise10TickTest {
    public static void main(String[] args) {
        Check check = new Check("Promise 10");
        soManySeconds(check);
        bad(check);
        howManyFailed(check);
        silentOnesToo(check);
        failuresByCantDontCount(check);
        check.end();
    }

    private static void soManySeconds(Check check) {
        check.sentence("So many seconds go by (0 .. 1000)");
        FederationWire x = new FederationWire();
        check.due("tick(0)", x.tick(0), 0);
        check.due("clock", x.count(3), 0);
        check.due("tick(1)", x.tick(1), 0);
        check.due("clock", x.count(3), 1);
        check.due("tick(999)", x.tick(999), 0);
        check.due("clock", x.count(3), 1000);
        for (int i = 2; i <= 400; i++) {
            x.tick(1000);
        }
        check.due("clock", x.count(3), 400000);
        Talk.askFor(x, 0, 1);
        check.due("29 seconds later", x.tick(29), 0);
        check.due("30 seconds later", x.tick(1), 1);
    }

    private static void bad(Check check) {
        check.sentence("BAD");
        FederationWire x = new FederationWire();
        Talk.askFor(x, 0, 1);
        for (int seconds : new int[] {-1, 1001, Integer.MAX_VALUE, Integer.MIN_VALUE}) {
            check.due("tick(" + seconds + ")", x.tick(seconds), -1);
            check.due("clock", x.count(3), 0);
        }
        check.due("the request waits", Talk.told(x, 0), "0 0 0 0 0 0 0 1");
        check.due("tick(1000)", x.tick(1000), 1);
    }

    private static void howManyFailed(Check check) {
        check.sentence("how many requests failed in them");
        for (int requests = 0; requests <= 24; requests += 8) {
            FederationWire x = new FederationWire();
            for (int i = 0; i < requests; i++) {
                Talk.askFor(x, i % 4, 1);
            }
            check.due("29 seconds", x.tick(29), 0);
            check.due("30 seconds", x.tick(1), requests);
            check.due("none fails twice", x.tick(1000), 0);
        }
        FederationWire x = new FederationWire();
        Talk.askFor(x, 0, 1);
        x.tick(5);
        Talk.askFor(x, 0, 1);
        check.due("the first, 30 seconds ago", x.tick(25), 1);
        check.due("not yet", x.tick(4), 0);
        check.due("the other", x.tick(1), 1);
        FederationWire y = new FederationWire();
        Talk.askFor(y, 0, 1);
        y.tick(5);
        Talk.askFor(y, 0, 1);
        check.due("both within one call", y.tick(30), 2);
    }

    private static void silentOnesToo(Check check) {
        check.sentence("(silent ones, too)");
        FederationWire x = new FederationWire();
        x.bind(1, 1);
        x.ask(0, true);
        Talk.askFor(x, 0, 1);
        x.bind(1, 1);
        x.ask(0, true);
        check.due("29 seconds", x.tick(29), 0);
        check.due("30 seconds", x.tick(1), 3);
        check.due("told", Talk.told(x, 0), "0 1 1 0 1 0 2 1");
        check.due("told", Talk.told(x, 1), "0 2 1 0 0 0 2 1");
        check.due("none fails twice", x.tick(1000), 0);
    }

    private static void failuresByCantDontCount(Check check) {
        check.sentence("failed in them (not before)");
        FederationWire x = Talk.asked(0, false, 1);
        Talk.askFor(x, 0, 1);
        Talk.say(x, 0, Talk.CANT, 0, 0);
        check.due("one failed by CAN'T", x.tick(30), 1);
    }
}
