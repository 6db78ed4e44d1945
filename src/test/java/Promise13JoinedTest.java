/** Promise 13: joined rows (which they are: TermsJoinedTest). */
public final class Promise13JoinedTest {
    public static void main(String[] args) {
        Check check = new Check("Promise 13");
        tagAndValue(check);
        bad(check);
        noneSuch(check);
        notDone(check);
        silentOnes(check);
        check.end();
    }

    private static void tagAndValue(Check check) {
        check.sentence("Joined row i of a request that is done: its tag (what = 0), value (1)");
        FederationWire x = new FederationWire();
        x.up(0);
        x.bind(4, 40);
        x.bind(9, -90);
        x.bind(4, 41);
        x.ask(0, false);
        Talk.say(x, 0, Talk.ROWS, 0, 0, 1, 4, 1, 5, 2);
        Talk.say(x, 0, Talk.ROWS, 0, 1, 0, 9, 3, 4, 4);
        check.due("joined", Talk.joined(x, 0), "40:1 40:4 -90:3 41:1 41:4");
    }

    private static void bad(Check check) {
        check.sentence("BAD");
        FederationWire x = new FederationWire();
        check.due("joined(0, 0, 0): no request", x.joined(0, 0, 0), -1);
        x.up(0);
        Talk.askFor(x, 0, 1);
        check.due("joined(0, 0, 2): bad and not done", x.joined(0, 0, 2), -1);
        Talk.say(x, 0, Talk.ROWS, 0, 0, 0, 1, 9);
        for (int request : new int[] {-1, 1, 23, 24, Integer.MAX_VALUE, Integer.MIN_VALUE}) {
            check.due("joined(" + request + ", 0, 0)", x.joined(request, 0, 0), -1);
        }
        for (int what : new int[] {-1, 2, Integer.MAX_VALUE, Integer.MIN_VALUE}) {
            check.due("joined(0, 0, " + what + ")", x.joined(0, 0, what), -1);
            check.due("joined(0, 99, " + what + "): bad and none", x.joined(0, 99, what), -1);
        }
        check.due("joined(0, 0, 0)", x.joined(0, 0, 0), 101);
        check.due("joined(0, 0, 1)", x.joined(0, 0, 1), 9);
    }

    private static void noneSuch(Check check) {
        check.sentence("NO: there is none such");
        FederationWire x = Talk.asked(0, false, 1, 2);
        Talk.say(x, 0, Talk.ROWS, 0, 0, 0, 1, 9, 3, 7, 2, 8);
        check.due("the last", x.joined(0, 1, 1), 8);
        for (int i : new int[] {-1, 2, 3, 1200, Integer.MAX_VALUE, Integer.MIN_VALUE}) {
            check.due("joined(0, " + i + ", 0)", x.joined(0, i, 0), -2);
            check.due("joined(0, " + i + ", 1)", x.joined(0, i, 1), -2);
        }
        x.ask(0, false);
        check.due("without keys", x.joined(1, 0, 0), -2);
        Talk.askFor(x, 0, 1);
        Talk.say(x, 0, Talk.ROWS, 2, 0, 0);
        check.due("without rows", x.joined(2, 0, 0), -2);
    }

    private static void notDone(Check check) {
        check.sentence("NO: .. or it is not done");
        for (int silent = 0; silent < 2; silent++) {
            FederationWire x = Talk.asked(0, silent == 1, 1);
            check.due("waits", x.joined(0, 0, 0), -2);
            Talk.say(x, 0, Talk.ROWS, 0, 0, 1, 1, 9);
            check.due("waits, with a row", x.joined(0, 0, 0), -2);
            check.due("waits, with a row", x.joined(0, 0, 1), -2);
            Talk.say(x, 0, Talk.ROWS, 0, 1, 0);
            check.due("done", x.joined(0, 0, 0), 100);
            check.due("done", x.joined(0, 0, 1), 9);
        }
        FederationWire y = Talk.asked(0, false, 1);
        Talk.say(y, 0, Talk.ROWS, 0, 0, 1, 1, 9);
        Talk.say(y, 0, Talk.CANT, 0, 1);
        check.due("failed", y.joined(0, 0, 0), -2);
        check.due("failed", y.joined(0, 0, 1), -2);
        FederationWire z = Talk.asked(0, false, 1);
        Talk.say(z, 0, Talk.ROWS, 0, 0, 1, 1, 9);
        z.tick(30);
        check.due("failed on the clock", z.joined(0, 0, 0), -2);
    }

    private static void silentOnes(Check check) {
        check.sentence("Joined row i of a request that is done (a silent one that failed)");
        FederationWire x = Talk.asked(0, true, 4, 5, 4);
        Talk.say(x, 0, Talk.ROWS, 0, 0, 1, 4, 1, 4, 2);
        x.tick(30);
        check.due("joined", Talk.joined(x, 0), "100:-1 101:-1 102:-1");
        for (int i : new int[] {-1, 3, Integer.MAX_VALUE, Integer.MIN_VALUE}) {
            check.due("joined(0, " + i + ", 0)", x.joined(0, i, 0), -2);
            check.due("joined(0, " + i + ", 1)", x.joined(0, i, 1), -2);
        }
    }
}
