/** Terms, JOINED and ESTIMATE: which rows, in which order, and how thousandths are rounded. */
public final class TermsJoinedTest {
    public static void main(String[] args) {
        Check check = new Check("Terms, joined and estimate (promises 13, 14)");
        bindingsInOrder(check);
        noneAndMost(check);
        estimateBefore(check);
        estimateOfTheFirst(check);
        estimateOfOthers(check);
        estimateIsOfDoneOnesThatDidNotFail(check);
        estimateOfEachHouse(check);
        check.end();
    }

    private static void bindingsInOrder(Check check) {
        check.sentence("JOINED: for each binding, in order, each row with its key, in order: tag "
                + "and value");
        FederationWire x = new FederationWire();
        x.up(0);
        x.bind(4, Integer.MAX_VALUE);
        x.bind(9, Integer.MIN_VALUE);
        x.bind(4, -1);
        x.bind(8, 0);
        x.ask(0, false);
        Talk.say(x, 0, Talk.ROWS, 0, 0, 1, 9, 3, 4, 255, 5, 2);
        Talk.say(x, 0, Talk.ROWS, 0, 1, 0, 4, 0);
        check.due("joined", Talk.joined(x, 0), "2147483647:255 2147483647:0 -2147483648:3 "
                + "-1:255 -1:0");
        check.due("how many", x.told(0, 4), 5);
        check.due("none behind", x.joined(0, 5, 0), -2);
    }

    private static void noneAndMost(Check check) {
        check.sentence("for each binding .. each row with its key (none, and 20 by 60)");
        FederationWire x = Talk.asked(0, false, 4);
        Talk.say(x, 0, Talk.ROWS, 0, 0, 0, 3, 1, 5, 1);
        check.due("no row with its key", x.told(0, 4), 0);
        check.due("joined", x.joined(0, 0, 0), -2);
        FederationWire y = new FederationWire();
        y.up(0);
        for (int i = 0; i < 20; i++) {
            y.bind(3, i);
        }
        y.ask(0, false);
        for (int i = 0; i < 8; i++) {
            Talk.say(y, 0, Talk.ROWS, 0, Talk.rowsBody(i, i == 7 ? 0 : 1, 3, 8 * i, 8));
        }
        check.due("how many", y.told(0, 4), 1200);
        check.due("tag 59", y.joined(0, 59, 0), 0);
        check.due("value 59", y.joined(0, 59, 1), 59);
        check.due("tag 60", y.joined(0, 60, 0), 1);
        check.due("value 60", y.joined(0, 60, 1), 0);
        check.due("tag 1199", y.joined(0, 1199, 0), 19);
        check.due("value 1199", y.joined(0, 1199, 1), 59);
        check.due("tag 1200", y.joined(0, 1200, 0), -2);
    }

    /** One more request to the house, with these keys, answered with so many rows at once. */
    private static void answered(FederationWire x, int house, int keys, int rows) {
        int number = Talk.askFor(x, house, keys);
        int step = 0;
        for (int left = keys; left > 8; left -= 8) {
            Talk.say(x, house, Talk.ROWS, number, step, 0);
            step++;
        }
        Talk.say(x, house, Talk.ROWS, number, Talk.rowsBody(step, 0, 200, 0, rows));
    }

    private static void estimateBefore(Check check) {
        check.sentence("1000 before");
        FederationWire x = Talk.asked(0, false, 1);
        check.due("asked", x.estimate(0), 1000);
        Talk.say(x, 0, Talk.ROWS, 0, 0, 1, 1, 1, 1, 2);
        check.due("not wholly answered", x.estimate(0), 1000);
        Talk.say(x, 0, Talk.ROWS, 0, 1, 0);
        check.due("done", x.estimate(0), 2000);
    }

    private static void estimateOfTheFirst(Check check) {
        check.sentence("thousandths of rows by keys (rounded down) ..: the first one's");
        int[][] cases = {{1, 0, 0}, {1, 1, 1000}, {1, 8, 8000}, {3, 1, 333}, {3, 2, 666},
            {3, 3, 1000}, {7, 6, 857}, {7, 1, 142}, {8, 7, 875}, {9, 8, 888}, {20, 1, 50},
            {19, 1, 52}, {17, 8, 470}};
        for (int[] each : cases) {
            FederationWire x = Talk.wide(0);
            answered(x, 0, each[0], each[1]);
            check.due(each[1] + " rows by " + each[0] + " keys", x.estimate(0), each[2]);
        }
        FederationWire x = Talk.wide(0);
        Talk.bindAll(x, 1, 2, 1, 2, 1);
        x.ask(0, false);
        Talk.say(x, 0, Talk.ROWS, 0, 0, 0, 1, 1);
        check.due("by keys, not by bindings", x.estimate(0), 500);
        FederationWire y = Talk.asked(1, false, 1);
        for (int i = 0; i < 9; i++) {
            Talk.say(y, 1, Talk.ROWS, 0, Talk.rowsBody(i, i == 8 ? 0 : 1, 1, 0, 8));
        }
        check.due("72 rows came, 60 are there", y.estimate(1), 60000);
    }

    private static void estimateOfOthers(Check check) {
        check.sentence("then, by each other one, half of what it was and that one's, rounded down");
        FederationWire x = Talk.wide(2);
        answered(x, 2, 3, 2);
        check.due("the first one's", x.estimate(2), 666);
        answered(x, 2, 1, 3);
        check.due("(666 + 3000) / 2", x.estimate(2), 1833);
        answered(x, 2, 1, 0);
        check.due("(1833 + 0) / 2", x.estimate(2), 916);
        answered(x, 2, 3, 1);
        check.due("(916 + 333) / 2", x.estimate(2), 624);
        answered(x, 2, 3, 2);
        check.due("(624 + 666) / 2", x.estimate(2), 645);
        FederationWire y = Talk.wide(2);
        answered(y, 2, 1, 0);
        check.due("the first one had none", y.estimate(2), 0);
        answered(y, 2, 1, 1);
        check.due("(0 + 1000) / 2", y.estimate(2), 500);
        answered(y, 2, 7, 1);
        check.due("(500 + 142) / 2", y.estimate(2), 321);
        answered(y, 2, 1, 0);
        check.due("(321 + 0) / 2", y.estimate(2), 160);
    }

    private static void estimateIsOfDoneOnesThatDidNotFail(Check check) {
        check.sentence("of requests that were DONE and did not fail");
        for (int silent = 0; silent < 2; silent++) {
            FederationWire x = Talk.asked(0, silent == 1, 1);
            Talk.say(x, 0, Talk.ROWS, 0, 0, 1, 1, 1, 1, 2);
            Talk.say(x, 0, Talk.CANT, 0, 1);
            check.due("failed by CAN'T", x.estimate(0), 1000);
            x.bind(1, 1);
            x.ask(0, silent == 1);
            check.due("fails", x.tick(30), 1);
            check.due("failed on the clock", x.estimate(0), 1000);
            x.ask(0, silent == 1);
            check.due("without keys", x.estimate(0), 1000);
            x.bind(1, 1);
            x.ask(0, silent == 1);
            Talk.say(x, 0, Talk.ROWS, 3, 0, 0, 1, 1, 1, 2);
            check.due("the first that counts", x.estimate(0), 2000);
            x.ask(0, silent == 1);
            check.due("without keys", x.estimate(0), 2000);
            x.bind(1, 1);
            x.ask(0, silent == 1);
            Talk.say(x, 0, Talk.CANT, 5, 0);
            check.due("failed by CAN'T", x.estimate(0), 2000);
        }
    }

    private static void estimateOfEachHouse(Check check) {
        check.sentence("ESTIMATE of a house");
        FederationWire x = new FederationWire();
        for (int house = 0; house < 4; house++) {
            x.up(house);
            answered(x, house, 1, house + 2);
        }
        for (int house = 0; house < 4; house++) {
            check.due("house " + house, x.estimate(house), 1000 * (house + 2));
        }
    }
}
