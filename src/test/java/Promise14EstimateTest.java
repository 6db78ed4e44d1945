/** Promise 14: the estimate of a house, learnt from requests that were done. */
public final class Promise14EstimateTest {
    public static void main(String[] args) {
        Check check = new Check();
        FederationWire x = new FederationWire();
        check.due("estimate(-1)", x.estimate(-1), -1);
        check.due("estimate(4)", x.estimate(4), -1);
        check.due("estimate(MAX)", x.estimate(Integer.MAX_VALUE), -1);
        x.up(2);
        check.due("before", x.estimate(2), 1000);
        answered(x, 0, 2, 0, 3, 3);
        check.due("3 keys, 2 rows: the first one's", x.estimate(2), 666);
        answered(x, 1, 3, 0, 4, 1);
        check.due("(666 + 3000) / 2", x.estimate(2), 1833);
        answered(x, 2, 0, 0, 1, 1);
        check.due("no rows: 1833 / 2", x.estimate(2), 916);
        x.ask(2, false);
        check.due("without keys", x.estimate(2), 916);
        x.bind(1, 1);
        x.ask(2, true);
        Talk.say(x, 2, Talk.CANT, 4, 0);
        check.due("a silent one that failed", x.estimate(2), 916);
        x.bind(1, 1);
        x.ask(2, false);
        check.due("fails", x.tick(1000), 1);
        check.due("one that failed", x.estimate(2), 916);
        check.due("other house", x.estimate(1), 1000);
        firstOneOfNone(check);
        rowsThatAreLeftOut(check);
        check.end();
    }

    /** A request with so many bindings and keys, answered by so many rows. */
    private static void answered(FederationWire x, int number, int many, int step, int bindings,
            int keys) {
        for (int i = 0; i < bindings; i++) {
            x.bind(i % keys, i);
        }
        x.ask(2, number % 2 == 0);
        Talk.say(x, 2, Talk.ROWS, number, Talk.rowsBody(step, 0, 200, 0, many));
    }

    private static void firstOneOfNone(Check check) {
        FederationWire x = Talk.asked(0, false, 1);
        Talk.say(x, 0, Talk.ROWS, 0, 0, 0);
        check.due("the first one had no rows", x.estimate(0), 0);
        x.bind(1, 1);
        x.ask(0, false);
        Talk.say(x, 0, Talk.ROWS, 1, 0, 0, 1, 1);
        check.due("(0 + 1000) / 2", x.estimate(0), 500);
    }

    private static void rowsThatAreLeftOut(Check check) {
        FederationWire x = Talk.asked(1, false, 1);
        for (int i = 0; i < 9; i++) {
            Talk.say(x, 1, Talk.ROWS, 0, Talk.rowsBody(i, i == 8 ? 0 : 1, 1, 0, 8));
        }
        check.due("rows that it has: 60", x.estimate(1), 60000);
    }
}
