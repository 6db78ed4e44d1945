/** Promise 12: the rows of a request, in the order in which they came. */
public final class Promise12RowTest {
    public static void main(String[] args) {
        Check check = new Check();
        FederationWire x = new FederationWire();
        check.due("row(0, 0, 0)", x.row(0, 0, 0), -1);
        x.up(0);
        x.bind(1, 1);
        x.ask(0, false);
        check.due("no row yet", x.row(0, 0, 0), -2);
        Talk.say(x, 0, Talk.ROWS, 0, 0, 1, 255, 254, 1, 0);
        check.due("row while it waits", Talk.rows(x, 0), "255:254 1:0");
        Talk.say(x, 0, Talk.ROWS, 0, 1, 0, 1, 0, 0, 126);
        check.due("rows", Talk.rows(x, 0), "255:254 1:0 1:0 0:126");
        check.due("row(0, 4, 0)", x.row(0, 4, 0), -2);
        check.due("row(0, 60, 1)", x.row(0, 60, 1), -2);
        check.due("row(0, MAX, 1)", x.row(0, Integer.MAX_VALUE, 1), -2);
        check.due("row(0, -1, 0)", x.row(0, -1, 0), -2);
        check.due("row(0, 0, -1)", x.row(0, 0, -1), -1);
        check.due("row(0, 0, 2)", x.row(0, 0, 2), -1);
        check.due("row(0, 99, 2): bad before no", x.row(0, 99, 2), -1);
        check.due("row(1, 0, 0)", x.row(1, 0, 0), -1);
        check.due("row(-1, 0, 0)", x.row(-1, 0, 0), -1);
        FederationWire y = Talk.asked(0, true, 1);
        Talk.say(y, 0, Talk.ROWS, 0, 0, 1, 1, 1);
        check.due("row", Talk.rows(y, 0), "1:1");
        Talk.say(y, 0, Talk.CANT, 0, 1);
        check.due("a silent one that failed has none", y.row(0, 0, 0), -2);
        check.end();
    }
}
