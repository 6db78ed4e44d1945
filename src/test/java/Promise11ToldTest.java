/** Promise 11: what is told of a request. */
public final class Promise11ToldTest {
    public static void main(String[] args) {
        Check check = new Check("Promise 11");
        noSuchRequest(check);
        noSuchThing(check);
        house(check);
        state(check);
        why(check);
        rows(check);
        joinedOnes(check);
        latestStep(check);
        repeated(check);
        keys(check);
        check.end();
    }

    private static void noSuchRequest(Check check) {
        check.sentence("BAD (no such request)");
        FederationWire x = new FederationWire();
        for (int count = 0; count <= 24; count++) {
            if (count == 0 || count == 1 || count == 23 || count == 24) {
                for (int request : new int[] {-1, count, 24, 25, Integer.MAX_VALUE,
                    Integer.MIN_VALUE}) {
                    check.due("told(" + request + ", 0), " + count + " being there",
                            x.told(request, 0), -1);
                }
                if (count > 0) {
                    check.due("told(0, 1)", x.told(0, 1), 1);
                    check.due("told(" + (count - 1) + ", 1)", x.told(count - 1, 1), 1);
                }
            }
            x.ask(0, false);
        }
    }

    private static void noSuchThing(Check check) {
        check.sentence("BAD (what is not 0 .. 7)");
        FederationWire x = Talk.asked(3, false, 1, 2);
        for (int what : new int[] {-1, 8, Integer.MAX_VALUE, Integer.MIN_VALUE}) {
            check.due("told(0, " + what + ")", x.told(0, what), -1);
        }
        check.due("told(0, 0)", x.told(0, 0), 3);
        check.due("told(0, 7)", x.told(0, 7), 2);
    }

    private static void house(Check check) {
        check.sentence("0 its house");
        FederationWire x = new FederationWire();
        for (int house = 0; house < 4; house++) {
            x.ask(3 - house, false);
            check.due("house", x.told(house, 0), 3 - house);
        }
    }

    private static void state(Check check) {
        check.sentence("1 whether it waits (0), is done (1) or failed (2)");
        for (int silent = 0; silent < 2; silent++) {
            FederationWire x = Talk.asked(0, silent == 1, 1);
            check.due("waits", x.told(0, 1), 0);
            Talk.say(x, 0, Talk.ROWS, 0, 0, 1);
            check.due("waits", x.told(0, 1), 0);
            Talk.say(x, 0, Talk.ROWS, 0, 1, 0);
            check.due("done", x.told(0, 1), 1);
            FederationWire y = Talk.asked(0, silent == 1, 1);
            Talk.say(y, 0, Talk.CANT, 0, 0);
            check.due("failed by CAN'T", y.told(0, 1), silent == 1 ? 1 : 2);
            FederationWire z = Talk.asked(0, silent == 1, 1);
            z.tick(29);
            check.due("waits", z.told(0, 1), 0);
            z.tick(1);
            check.due("failed on the clock", z.told(0, 1), silent == 1 ? 1 : 2);
        }
    }

    private static void why(Check check) {
        check.sentence("2 why it failed (of silent ones, too; 0 for others)");
        for (int silent = 0; silent < 2; silent++) {
            FederationWire x = Talk.asked(0, silent == 1, 1);
            check.due("waits", x.told(0, 2), 0);
            x.tick(29);
            check.due("waits", x.told(0, 2), 0);
            x.tick(1);
            check.due("on the clock", x.told(0, 2), 1);
            FederationWire y = Talk.asked(0, silent == 1, 1);
            Talk.say(y, 0, Talk.CANT, 0, 0);
            check.due("by CAN'T", y.told(0, 2), 3);
            FederationWire z = Talk.asked(0, silent == 1, 1);
            Talk.say(z, 0, Talk.ROWS, 0, 0, 0);
            check.due("done", z.told(0, 2), 0);
            z.ask(0, silent == 1);
            check.due("without keys", z.told(1, 2), 0);
        }
    }

    private static void rows(Check check) {
        check.sentence("3 how many rows it has");
        FederationWire x = Talk.asked(0, false, 1);
        check.due("none", x.told(0, 3), 0);
        Talk.say(x, 0, Talk.ROWS, 0, 0, 1, 1, 1);
        check.due("one, while it waits", x.told(0, 3), 1);
        Talk.say(x, 0, Talk.ROWS, 0, Talk.rowsBody(1, 1, 2, 0, 8));
        check.due("nine, whatever their keys", x.told(0, 3), 9);
        Talk.say(x, 0, Talk.CANT, 0, 2);
        check.due("failed", x.told(0, 3), 9);
        FederationWire y = Talk.asked(0, true, 1);
        Talk.say(y, 0, Talk.ROWS, 0, 0, 1, 1, 1);
        check.due("one, while it waits", y.told(0, 3), 1);
        Talk.say(y, 0, Talk.CANT, 0, 1);
        check.due("a silent one that failed", y.told(0, 3), 0);
    }

    private static void joinedOnes(Check check) {
        check.sentence("4 how many joined ones (0 when it is not done)");
        FederationWire x = Talk.asked(0, false, 1, 1, 2);
        Talk.say(x, 0, Talk.ROWS, 0, 0, 1, 1, 1, 2, 2);
        check.due("it waits", x.told(0, 4), 0);
        Talk.say(x, 0, Talk.ROWS, 0, 1, 0);
        check.due("it is done", x.told(0, 4), 3);
        FederationWire y = Talk.asked(0, false, 1, 1, 2);
        Talk.say(y, 0, Talk.ROWS, 0, 0, 1, 1, 1, 2, 2);
        Talk.say(y, 0, Talk.CANT, 0, 1);
        check.due("it failed", y.told(0, 4), 0);
        FederationWire z = Talk.asked(0, true, 1, 1, 2);
        Talk.say(z, 0, Talk.ROWS, 0, 0, 1, 1, 1, 1, 1);
        check.due("a silent one that waits", z.told(0, 4), 0);
        Talk.say(z, 0, Talk.CANT, 0, 1);
        check.due("a silent one that failed: its bindings", z.told(0, 4), 3);
        z.ask(0, true);
        check.due("without bindings", z.told(1, 4), 0);
    }

    private static void latestStep(Check check) {
        check.sentence("5 its latest step (-1 without keys)");
        FederationWire x = new FederationWire();
        x.up(0);
        x.ask(0, false);
        check.due("without keys", x.told(0, 5), -1);
        x.setting(0, 1);
        Talk.askFor(x, 0, 2);
        check.due("with keys", x.told(1, 5), 0);
        Talk.say(x, 0, Talk.ROWS, 1, 0, 1);
        check.due("a MORE", x.told(1, 5), 1);
        Talk.say(x, 0, Talk.ROWS, 1, 1, 0);
        check.due("another ASK", x.told(1, 5), 2);
        Talk.say(x, 0, Talk.ROWS, 1, 2, 0);
        check.due("done", x.told(1, 5), 2);
        Talk.askFor(x, 1, 1);
        check.due("one that is lost", x.told(2, 5), 0);
    }

    private static void repeated(Check check) {
        check.sentence("6 how often its latest frame was repeated");
        FederationWire x = Talk.asked(0, false, 1);
        for (int i = 0; i <= 2; i++) {
            check.due("after " + 10 * i + " seconds", x.told(0, 6), i);
            x.tick(10);
        }
        check.due("failed", x.told(0, 1), 2);
        check.due("the failure is no repeat", x.told(0, 6), 2);
        FederationWire y = Talk.asked(0, false, 1);
        y.tick(10);
        Talk.say(y, 0, Talk.ROWS, 0, 0, 1);
        check.due("a MORE", y.told(0, 6), 0);
        y.tick(20);
        check.due("repeated", y.told(0, 6), 2);
        Talk.say(y, 0, Talk.ROWS, 0, 1, 0);
        check.due("done: its latest frame is the same", y.told(0, 6), 2);
        y.ask(0, false);
        check.due("without keys", y.told(1, 6), 0);
    }

    private static void keys(Check check) {
        check.sentence("7 how many keys it has");
        FederationWire x = new FederationWire();
        x.ask(0, false);
        check.due("none", x.told(0, 7), 0);
        Talk.bindAll(x, 5, 5, 6);
        x.ask(0, false);
        check.due("two of three", x.told(1, 7), 2);
        Talk.askFor(x, 0, 20);
        check.due("20", x.told(2, 7), 20);
    }
}
