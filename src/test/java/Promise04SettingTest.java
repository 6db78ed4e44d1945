/** Promise 4: the settings, their bounds, and from when on they hold. */
public final class Promise04SettingTest {
    public static void main(String[] args) {
        Check check = new Check("Promise 4");
        check.sentence("BULK (what = 0, 1 .. 8)");
        bounds(check, 0, 4, 1, 8);
        check.sentence("PATIENCE (1, 1 .. 100)");
        bounds(check, 1, 10, 1, 100);
        check.sentence("RETRIES (2, 0 .. 5)");
        bounds(check, 2, 2, 0, 5);
        whatItWas(check);
        bad(check);
        requestsFromNowOn(check);
        leastAndMostBulk(check);
        patienceAndRetriesHoldAtOnce(check);
        check.end();
    }

    private static void bounds(Check check, int what, int first, int least, int most) {
        FederationWire x = new FederationWire();
        for (int v : new int[] {least - 1, most + 1, Integer.MIN_VALUE, Integer.MAX_VALUE}) {
            check.due("setting(" + what + ", " + v + ")", x.setting(what, v), -1);
        }
        int was = first;
        for (int v = least; v <= most; v++) {
            check.due("setting(" + what + ", " + v + ")", x.setting(what, v), was);
            was = v;
        }
        check.due("below", x.setting(what, least - 1), -1);
        check.due("above", x.setting(what, most + 1), -1);
        check.due("a refused one changes nothing", x.setting(what, least), most);
    }

    private static void whatItWas(Check check) {
        check.sentence("what it was");
        FederationWire x = new FederationWire();
        check.due("BULK", x.setting(0, 5), 4);
        check.due("PATIENCE", x.setting(1, 5), 10);
        check.due("RETRIES", x.setting(2, 5), 2);
        check.due("the same again", x.setting(0, 5), 5);
        check.due("BULK", x.setting(0, 8), 5);
        check.due("PATIENCE", x.setting(1, 100), 5);
        check.due("RETRIES", x.setting(2, 0), 5);
        check.due("BULK", x.setting(0, 1), 8);
        check.due("PATIENCE", x.setting(1, 1), 100);
        check.due("RETRIES", x.setting(2, 1), 0);
    }

    private static void bad(Check check) {
        check.sentence("BAD");
        FederationWire x = new FederationWire();
        for (int what : new int[] {-1, 3, Integer.MAX_VALUE, Integer.MIN_VALUE}) {
            check.due("setting(" + what + ", 1)", x.setting(what, 1), -1);
        }
        check.due("9 is none for BULK", x.setting(0, 9), -1);
        check.due("9 is one for PATIENCE", x.setting(1, 9), 10);
        check.due("0 is none for PATIENCE", x.setting(1, 0), -1);
        check.due("0 is one for RETRIES", x.setting(2, 0), 2);
        check.due("6 is none for RETRIES", x.setting(2, 6), -1);
        check.due("6 is one for BULK", x.setting(0, 6), 4);
    }

    private static void requestsFromNowOn(Check check) {
        check.sentence("BULK (.. of requests from now on)");
        FederationWire x = new FederationWire();
        x.up(0);
        x.setting(0, 1);
        Talk.bindAll(x, 1, 2, 3);
        x.setting(0, 2);
        x.ask(0, false);
        x.setting(0, 8);
        check.due("first part", Talk.drain(x, 0), Talk.text(Talk.frame(1, 0, 0, 1, 2)));
        Talk.askFor(x, 0, 3);
        check.due("other request", Talk.drain(x, 0), Talk.text(Talk.frame(1, 1, 0, 1, 2, 3)));
        x.setting(0, 1);
        x.tick(10);
        check.due("repeats", Talk.drain(x, 0), Talk.text(Talk.frame(1, 0, 0, 1, 2),
                Talk.frame(1, 1, 0, 1, 2, 3)));
        Talk.say(x, 0, Talk.ROWS, 0, 0, 0);
        check.due("last part", Talk.drain(x, 0), Talk.text(Talk.frame(1, 0, 1, 3)));
    }

    private static void leastAndMostBulk(Check check) {
        check.sentence("BULK 1 .. 8");
        FederationWire x = new FederationWire();
        x.up(0);
        x.setting(0, 8);
        Talk.askFor(x, 0, 9);
        check.due("8", Talk.drain(x, 0), Talk.text(Talk.frame(1, 0, 0, 1, 2, 3, 4, 5, 6, 7, 8)));
        x.setting(0, 9);
        Talk.askFor(x, 0, 9);
        check.due("9 was refused", Talk.drain(x, 0),
                Talk.text(Talk.frame(1, 1, 0, 1, 2, 3, 4, 5, 6, 7, 8)));
        x.setting(0, 1);
        Talk.askFor(x, 0, 9);
        check.due("1", Talk.drain(x, 0), Talk.text(Talk.frame(1, 2, 0, 1)));
        x.setting(0, 0);
        Talk.askFor(x, 0, 9);
        check.due("0 was refused", Talk.drain(x, 0), Talk.text(Talk.frame(1, 3, 0, 1)));
    }

    private static void patienceAndRetriesHoldAtOnce(Check check) {
        check.sentence("PATIENCE .., RETRIES (of all requests)");
        FederationWire x = new FederationWire();
        Talk.askFor(x, 0, 1);
        x.tick(5);
        x.setting(1, 3);
        check.due("nothing happens without a second", x.told(0, 6), 0);
        x.tick(1);
        check.due("repeated", x.told(0, 6), 1);
        x.tick(3);
        check.due("repeated", x.told(0, 6), 2);
        x.setting(2, 3);
        check.due("one repeat more", x.tick(3), 0);
        check.due("repeated", x.told(0, 6), 3);
        x.setting(1, 100);
        check.due("99 seconds", x.tick(99), 0);
        check.due("100 seconds", x.tick(1), 1);
        x.setting(1, 1);
        x.setting(2, 0);
        Talk.askFor(x, 0, 1);
        check.due("no second", x.tick(0), 0);
        check.due("one second", x.tick(1), 1);
        check.due("repeated", x.told(1, 6), 0);
    }
}
