/** Promise 11: what is told of a request. */
public final class Promise11ToldTest {
    public static void main(String[] args) {
        Check check = new Check();
        FederationWire x = new FederationWire();
        check.due("told(0, 0)", x.told(0, 0), -1);
        x.up(3);
        x.setting(0, 1);
        Talk.bindAll(x, 8, 9, 8);
        x.ask(3, false);
        check.due("told(-1, 0)", x.told(-1, 0), -1);
        check.due("told(1, 0)", x.told(1, 0), -1);
        check.due("told(24, 0)", x.told(24, 0), -1);
        check.due("told(MAX, 0)", x.told(Integer.MAX_VALUE, 0), -1);
        check.due("told(0, -1)", x.told(0, -1), -1);
        check.due("told(0, 8)", x.told(0, 8), -1);
        check.due("waits", Talk.told(x, 0), "3 0 0 0 0 0 0 2");
        x.tick(10);
        check.due("repeated", Talk.told(x, 0), "3 0 0 0 0 0 1 2");
        Talk.say(x, 3, Talk.ROWS, 0, 0, 0, 8, 1, 8, 2, 7, 3);
        check.due("next part", Talk.told(x, 0), "3 0 0 3 0 1 0 2");
        Talk.say(x, 3, Talk.ROWS, 0, 1, 0, 9, 4);
        check.due("done", Talk.told(x, 0), "3 1 0 4 5 1 0 2");
        failures(check, false, "2 2 1 1 0 1 0 1", "2 2 3 1 0 1 0 1");
        failures(check, true, "2 1 1 0 1 1 0 1", "2 1 3 0 1 1 0 1");
        check.end();
    }

    private static void failures(Check check, boolean silent, String byClock, String byCant) {
        FederationWire x = Talk.asked(2, silent, 1);
        x.setting(2, 0);
        Talk.say(x, 2, Talk.ROWS, 0, 0, 1, 1, 1);
        x.tick(10);
        check.due("failed on the clock", Talk.told(x, 0), byClock);
        FederationWire y = Talk.asked(2, silent, 1);
        Talk.say(y, 2, Talk.ROWS, 0, 0, 1, 1, 1);
        Talk.say(y, 2, Talk.CANT, 0, 1);
        check.due("failed by CAN'T", Talk.told(y, 0), byCant);
    }
}
