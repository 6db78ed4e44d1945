/** Promise 13: rows joined to the bindings that asked for them. */
public final class Promise13JoinedTest {
    public static void main(String[] args) {
        Check check = new Check();
        FederationWire x = new FederationWire();
        x.up(0);
        x.bind(4, 40);
        x.bind(9, -90);
        x.bind(4, 41);
        x.ask(0, false);
        check.due("it is not done", x.joined(0, 0, 0), -2);
        Talk.say(x, 0, Talk.ROWS, 0, 0, 1, 4, 1, 5, 2);
        check.due("it is not done", x.joined(0, 0, 0), -2);
        Talk.say(x, 0, Talk.ROWS, 0, 1, 0, 9, 3, 4, 4);
        check.due("joined", joined(x, 0), "40:1 40:4 -90:3 41:1 41:4");
        check.due("how many", x.told(0, 4), 5);
        check.due("joined(0, 5, 1)", x.joined(0, 5, 1), -2);
        check.due("joined(0, -1, 0)", x.joined(0, -1, 0), -2);
        check.due("joined(0, MAX, 0)", x.joined(0, Integer.MAX_VALUE, 0), -2);
        check.due("joined(0, 0, -1)", x.joined(0, 0, -1), -1);
        check.due("joined(0, 0, 2)", x.joined(0, 0, 2), -1);
        check.due("joined(1, 0, 0)", x.joined(1, 0, 0), -1);
        check.due("joined(-1, 0, 0)", x.joined(-1, 0, 0), -1);
        failed(check);
        silent(check);
        most(check);
        check.end();
    }

    private static String joined(FederationWire x, int request) {
        StringBuilder text = new StringBuilder();
        for (int i = 0; i < x.told(request, 4); i++) {
            text.append(i == 0 ? "" : " ").append(x.joined(request, i, 0))
                .append(':').append(x.joined(request, i, 1));
        }
        return text.toString();
    }

    private static void failed(Check check) {
        FederationWire x = Talk.asked(0, false, 4);
        Talk.say(x, 0, Talk.ROWS, 0, 0, 1, 4, 1);
        Talk.say(x, 0, Talk.CANT, 0, 1);
        check.due("a failed one", x.joined(0, 0, 0), -2);
        check.due("a failed one, what = 2", x.joined(0, 0, 2), -1);
        check.due("how many", x.told(0, 4), 0);
    }

    private static void silent(Check check) {
        FederationWire x = Talk.asked(0, true, 4, 5, 4);
        Talk.say(x, 0, Talk.ROWS, 0, 0, 1, 4, 1, 4, 2);
        x.tick(30);
        check.due("joined", joined(x, 0), "100:-1 101:-1 102:-1");
        check.due("joined(0, 3, 0)", x.joined(0, 3, 0), -2);
        check.due("joined(0, 3, 1)", x.joined(0, 3, 1), -2);
        FederationWire y = Talk.asked(0, true, 4, 5);
        Talk.say(y, 0, Talk.ROWS, 0, 0, 0, 5, 1);
        check.due("a silent one that did not fail", joined(y, 0), "101:1");
    }

    /** 20 bindings with one key and 60 rows: 1200 joined rows. */
    private static void most(Check check) {
        FederationWire x = new FederationWire();
        x.up(0);
        for (int i = 0; i < 20; i++) {
            x.bind(3, i);
        }
        x.ask(0, false);
        for (int i = 0; i < 8; i++) {
            Talk.say(x, 0, Talk.ROWS, 0, Talk.rowsBody(i, i == 7 ? 0 : 1, 3, 8 * i, 8));
        }
        check.due("how many", x.told(0, 4), 1200);
        check.due("tag", x.joined(0, 1199, 0), 19);
        check.due("value", x.joined(0, 1199, 1), 59);
        check.due("tag", x.joined(0, 60, 0), 1);
        check.due("value", x.joined(0, 60, 1), 0);
        check.due("none", x.joined(0, 1200, 0), -2);
    }
}
