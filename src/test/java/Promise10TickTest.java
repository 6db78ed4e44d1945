/** Promise 10: seconds go by; patience, repeats and failures. */
public final class Promise10TickTest {
    public static void main(String[] args) {
        Check check = new Check();
        bounds(check);
        repeatsAndFailure(check);
        byNumbers(check);
        everySecondCounts(check);
        answersBeginAnew(check);
        check.end();
    }

    private static void bounds(Check check) {
        FederationWire x = new FederationWire();
        check.due("tick(-1)", x.tick(-1), -1);
        check.due("tick(1001)", x.tick(1001), -1);
        check.due("tick(MAX)", x.tick(Integer.MAX_VALUE), -1);
        check.due("clock", x.count(3), 0);
        check.due("tick(0)", x.tick(0), 0);
        check.due("clock", x.count(3), 0);
        check.due("tick(1000)", x.tick(1000), 0);
        check.due("clock", x.count(3), 1000);
    }

    private static void repeatsAndFailure(Check check) {
        FederationWire x = Talk.asked(0, false, 5);
        String frame = Talk.text(Talk.frame(1, 0, 0, 5));
        x.tick(9);
        check.due("once", Talk.drain(x, 0), frame);
        check.due("tick", x.tick(1), 0);
        check.due("again", Talk.drain(x, 0), frame);
        x.tick(9);
        check.due("not yet", Talk.drain(x, 0), "");
        x.tick(1);
        check.due("again", Talk.drain(x, 0), frame);
        check.due("told", Talk.told(x, 0), "0 0 0 0 0 0 2 1");
        check.due("tick", x.tick(9), 0);
        check.due("fails", x.tick(1), 1);
        check.due("told", Talk.told(x, 0), "0 2 1 0 0 0 2 1");
        check.due("nothing more is sent", Talk.drain(x, 0), "");
        check.due("nothing more fails", x.tick(1000), 0);
    }

    private static void byNumbers(Check check) {
        FederationWire x = new FederationWire();
        x.up(0);
        x.bind(1, 0);
        x.ask(0, true);
        x.bind(2, 0);
        x.ask(0, false);
        x.tick(3);
        x.bind(3, 0);
        x.ask(0, false);
        Talk.drain(x, 0);
        x.setting(1, 2);
        x.setting(2, 1);
        check.due("tick", x.tick(2), 0);
        check.due("repeats", Talk.drain(x, 0), Talk.text(
                Talk.frame(1, 0, 0, 1), Talk.frame(1, 1, 0, 2), Talk.frame(1, 2, 0, 3)));
        check.due("silent ones, too", x.tick(1), 2);
        check.due("told", Talk.told(x, 0), "0 1 1 0 1 0 1 1");
        check.due("told", Talk.told(x, 1), "0 2 1 0 0 0 1 1");
        check.due("told", Talk.told(x, 2), "0 0 0 0 0 0 1 1");
        check.due("the last", x.tick(1), 1);
    }

    /** One call with many seconds is as many calls with one. */
    private static void everySecondCounts(Check check) {
        FederationWire x = new FederationWire();
        x.setting(1, 1);
        x.setting(2, 5);
        x.bind(1, 0);
        x.ask(0, false);
        check.due("five repeats", x.tick(5), 0);
        check.due("lost", x.count(5), 6);
        check.due("repeated", x.told(0, 6), 5);
        x.bind(1, 0);
        x.ask(0, false);
        check.due("both fail", x.tick(1000), 2);
        check.due("lost", x.count(5), 12);
    }

    private static void answersBeginAnew(Check check) {
        FederationWire x = Talk.asked(0, false, 5);
        x.tick(15);
        check.due("repeated", x.told(0, 6), 1);
        Talk.say(x, 0, Talk.ROWS, 0, 0, 1, 5, 1);
        check.due("a new frame is not repeated", x.told(0, 6), 0);
        Talk.drain(x, 0);
        x.tick(9);
        check.due("not yet", Talk.drain(x, 0), "");
        x.tick(1);
        check.due("MORE again, with its step", Talk.drain(x, 0), Talk.text(Talk.frame(3, 0, 1, 1)));
        check.due("told", Talk.told(x, 0), "0 0 0 1 0 1 1 1");
        check.due("fails", x.tick(20), 1);
        check.due("keeps its rows", Talk.told(x, 0), "0 2 1 1 0 1 2 1");
        check.due("row", Talk.rows(x, 0), "5:1");
    }
}
