/** Promise 2: a line comes up, and the latest frames of its requests go out again. */
public final class Promise02UpTest {
    public static void main(String[] args) {
        Check check = new Check();
        wrongLines(check);
        framesGoOutByNumber(check);
        countsAsSentForTheFirstTime(check);
        latestFrameIsSentNotTheFirst(check);
        whatDoesNotFitIsLost(check);
        check.end();
    }

    private static void wrongLines(Check check) {
        FederationWire x = new FederationWire();
        check.due("up(-1)", x.up(-1), -1);
        check.due("up(4)", x.up(4), -1);
        check.due("up(5)", x.up(5), -1);
        check.due("up(MAX)", x.up(Integer.MAX_VALUE), -1);
        check.due("up(MIN)", x.up(Integer.MIN_VALUE), -1);
        for (int line = 0; line < 4; line++) {
            check.due("up", x.up(line), 0);
            check.due("up again", x.up(line), -2);
            check.due("is up", x.line(line, 0), 1);
        }
    }

    private static void framesGoOutByNumber(Check check) {
        FederationWire x = new FederationWire();
        x.bind(1, 0);
        x.ask(2, false);
        x.bind(2, 0);
        x.ask(3, false);
        x.bind(3, 0);
        x.ask(2, true);
        x.ask(2, false);
        check.due("lost", x.count(5), 3);
        check.due("up(2): the request without keys does not wait", x.up(2), 2);
        check.due("out row", Talk.drain(x, 2),
                Talk.text(Talk.frame(1, 0, 0, 1), Talk.frame(1, 2, 0, 3)));
        check.due("the other line stays down", x.line(3, 0), 0);
        Talk.say(x, 2, Talk.ROWS, 0, 0, 0);
        x.down(2);
        check.due("up(2): one is done", x.up(2), 1);
        check.due("lost", x.count(5), 3);
    }

    private static void countsAsSentForTheFirstTime(Check check) {
        FederationWire x = new FederationWire();
        x.bind(1, 0);
        x.ask(0, false);
        x.tick(25);
        check.due("repeated", x.told(0, 6), 2);
        check.due("up", x.up(0), 1);
        check.due("repeated", x.told(0, 6), 0);
        check.due("up when it is up changes nothing", x.up(0), -2);
        x.tick(9);
        check.due("repeated after 9", x.told(0, 6), 0);
        x.tick(1);
        check.due("repeated after 10", x.told(0, 6), 1);
        check.due("fails after 30", x.tick(20), 1);
    }

    private static void latestFrameIsSentNotTheFirst(Check check) {
        FederationWire x = Talk.asked(1, false, 7);
        Talk.say(x, 1, Talk.ROWS, 0, 0, 1, 7, 9);
        x.down(1);
        check.due("up", x.up(1), 1);
        check.due("out row", Talk.drain(x, 1), Talk.text(Talk.frame(3, 0, 1, 1)));
        check.due("step", x.told(0, 5), 1);
    }

    /** 24 frames of 14 bytes are more than the 300 bytes of an out row. */
    private static void whatDoesNotFitIsLost(Check check) {
        FederationWire x = new FederationWire();
        x.setting(0, 8);
        for (int request = 0; request < 24; request++) {
            Talk.bindAll(x, 1, 2, 3, 4, 5, 6, 7, 8);
            x.ask(0, false);
        }
        x.tick(10);
        check.due("lost", x.count(5), 48);
        check.due("up", x.up(0), 21);
        check.due("lost", x.count(5), 51);
        check.due("out row", x.line(0, 1), 294);
        check.due("a lost one counts as sent, too", x.told(23, 6), 0);
        x.tick(9);
        check.due("repeated", x.told(23, 6), 0);
    }
}
