/** Promise 4: the settings, their bounds, and from when on they hold. */
public final class Promise04SettingTest {
    public static void main(String[] args) {
        Check check = new Check();
        bounds(check, 0, 4, 1, 8);
        bounds(check, 1, 10, 1, 100);
        bounds(check, 2, 2, 0, 5);
        FederationWire x = new FederationWire();
        check.due("setting(-1, 1)", x.setting(-1, 1), -1);
        check.due("setting(3, 1)", x.setting(3, 1), -1);
        check.due("setting(MAX, 1)", x.setting(Integer.MAX_VALUE, 1), -1);
        bulkIsOfRequestsFromNowOn(check);
        patienceAndRetriesHoldAtOnce(check);
        check.end();
    }

    private static void bounds(Check check, int what, int first, int least, int most) {
        FederationWire x = new FederationWire();
        check.due("below", x.setting(what, least - 1), -1);
        check.due("above", x.setting(what, most + 1), -1);
        check.due("far below", x.setting(what, Integer.MIN_VALUE), -1);
        check.due("least", x.setting(what, least), first);
        check.due("most", x.setting(what, most), least);
        check.due("below", x.setting(what, least - 1), -1);
        check.due("still most", x.setting(what, most), most);
    }

    private static void bulkIsOfRequestsFromNowOn(Check check) {
        FederationWire x = new FederationWire();
        x.up(0);
        x.setting(0, 1);
        Talk.bindAll(x, 1, 2, 3);
        x.setting(0, 2);
        x.ask(0, false);
        x.setting(0, 8);
        check.due("first part", Talk.drain(x, 0), Talk.text(Talk.frame(1, 0, 0, 1, 2)));
        Talk.bindAll(x, 1, 2, 3);
        x.ask(0, false);
        check.due("other request", Talk.drain(x, 0), Talk.text(Talk.frame(1, 1, 0, 1, 2, 3)));
        x.setting(0, 1);
        Talk.say(x, 0, Talk.ROWS, 0, 0, 0);
        check.due("last part", Talk.drain(x, 0), Talk.text(Talk.frame(1, 0, 1, 3)));
    }

    private static void patienceAndRetriesHoldAtOnce(Check check) {
        FederationWire x = new FederationWire();
        x.bind(1, 1);
        x.ask(0, false);
        x.tick(5);
        x.setting(1, 3);
        check.due("nothing happens without a second", x.told(0, 6), 0);
        x.tick(1);
        check.due("repeated", x.told(0, 6), 1);
        x.tick(3);
        check.due("repeated", x.told(0, 6), 2);
        x.setting(2, 1);
        check.due("it was repeated often enough", x.tick(3), 1);
        x.bind(1, 1);
        x.setting(2, 0);
        x.ask(0, false);
        check.due("no repeats", x.tick(2), 0);
        check.due("no repeats", x.tick(1), 1);
        check.due("repeated", x.told(1, 6), 0);
    }
}
