/** Promise 12: the rows of a request, in the order in which they came. */
public final class Promise12RowTest {
    public static void main(String[] args) {
        Check check = new Check("Promise 12");
        keyAndValue(check);
        bad(check);
        noneSuch(check);
        sixty(check);
        failedAndSilent(check);
        check.end();
    }

    private static void keyAndValue(Check check) {
        check.sentence("Row i of a request: its key (what = 0), value (1)");
        FederationWire x = Talk.asked(0, false, 1);
        Talk.say(x, 0, Talk.ROWS, 0, 0, 1, 255, 254, 1, 0);
        check.due("rows while it waits", Talk.rows(x, 0), "255:254 1:0");
        Talk.say(x, 0, Talk.ROWS, 0, 1, 0, 1, 0, 0, 126);
        check.due("rows", Talk.rows(x, 0), "255:254 1:0 1:0 0:126");
    }

    private static void bad(Check check) {
        check.sentence("BAD");
        FederationWire x = new FederationWire();
        check.due("row(0, 0, 0): no request", x.row(0, 0, 0), -1);
        x.up(0);
        Talk.askFor(x, 0, 1);
        Talk.say(x, 0, Talk.ROWS, 0, 0, 0, 1, 9);
        for (int request : new int[] {-1, 1, 23, 24, Integer.MAX_VALUE, Integer.MIN_VALUE}) {
            check.due("row(" + request + ", 0, 0)", x.row(request, 0, 0), -1);
        }
        for (int what : new int[] {-1, 2, Integer.MAX_VALUE, Integer.MIN_VALUE}) {
            check.due("row(0, 0, " + what + ")", x.row(0, 0, what), -1);
            check.due("row(0, 99, " + what + "): bad and none", x.row(0, 99, what), -1);
        }
        check.due("row(0, 0, 0)", x.row(0, 0, 0), 1);
        check.due("row(0, 0, 1)", x.row(0, 0, 1), 9);
    }

    private static void noneSuch(Check check) {
        check.sentence("NO: there is none such");
        FederationWire x = Talk.asked(0, false, 1);
        check.due("no row yet", x.row(0, 0, 0), -2);
        Talk.say(x, 0, Talk.ROWS, 0, 0, 1, 1, 9, 2, 8);
        check.due("the last", x.row(0, 1, 0), 2);
        for (int i : new int[] {-1, 2, 3, 60, Integer.MAX_VALUE, Integer.MIN_VALUE}) {
            check.due("row(0, " + i + ", 0)", x.row(0, i, 0), -2);
            check.due("row(0, " + i + ", 1)", x.row(0, i, 1), -2);
        }
        x.ask(0, false);
        check.due("without keys", x.row(1, 0, 0), -2);
    }

    private static void sixty(Check check) {
        check.sentence("NO: there is none such (60 being there)");
        FederationWire x = Talk.asked(0, false, 1);
        for (int i = 0; i < 8; i++) {
            Talk.say(x, 0, Talk.ROWS, 0, Talk.rowsBody(i, 1, i, 8 * i, 8));
        }
        check.due("row 59", x.row(0, 59, 0) * 1000 + x.row(0, 59, 1), 7059);
        check.due("row 60", x.row(0, 60, 0), -2);
        check.due("row 63", x.row(0, 63, 1), -2);
    }

    private static void failedAndSilent(Check check) {
        check.sentence("Row i of a request (that failed; a silent one has none then)");
        FederationWire x = Talk.asked(0, false, 1);
        Talk.say(x, 0, Talk.ROWS, 0, 0, 1, 1, 9);
        Talk.say(x, 0, Talk.CANT, 0, 1);
        check.due("failed", Talk.rows(x, 0), "1:9");
        FederationWire y = Talk.asked(0, true, 1);
        Talk.say(y, 0, Talk.ROWS, 0, 0, 1, 1, 9);
        check.due("waits", Talk.rows(y, 0), "1:9");
        Talk.say(y, 0, Talk.CANT, 0, 1);
        check.due("key", y.row(0, 0, 0), -2);
        check.due("value", y.row(0, 0, 1), -2);
    }
}
