/** Promise 2: a line comes up, and the latest frames of its requests go out again. */
public final class Promise02UpTest {
    public static void main(String[] args) {
        Check check = new Check("Promise 2");
        comesUp(check);
        bad(check);
        itIsUp(check);
        howManyFrames(check);
        thoseThatWaitAlone(check);
        wereNotLost(check);
        check.end();
    }

    private static void comesUp(Check check) {
        check.sentence("A line 0 .. 3 comes up");
        for (int line = 0; line < 4; line++) {
            FederationWire x = new FederationWire();
            check.due("before", x.line(line, 0), 0);
            check.due("up(" + line + ")", x.up(line), 0);
            for (int other = 0; other < 4; other++) {
                check.due("line " + other, x.line(other, 0), other == line ? 1 : 0);
            }
        }
    }

    private static void bad(Check check) {
        check.sentence("BAD");
        FederationWire x = new FederationWire();
        for (int line : new int[] {-1, 4, 5, Integer.MAX_VALUE, Integer.MIN_VALUE}) {
            check.due("up(" + line + ")", x.up(line), -1);
        }
        for (int line = 0; line < 4; line++) {
            check.due("no line came up", x.line(line, 0), 0);
        }
        check.due("up(0)", x.up(0), 0);
        check.due("up(3)", x.up(3), 0);
    }

    private static void itIsUp(Check check) {
        check.sentence("NO: it is up");
        FederationWire x = new FederationWire();
        Talk.askFor(x, 1, 1);
        x.up(1);
        x.tick(10);
        x.octet(1, (byte) 126);
        check.due("up again", x.up(1), -2);
        check.due("out row", x.line(1, 1), 14);
        check.due("open frame", x.line(1, 2), 1);
        check.due("repeated", x.told(0, 6), 1);
        x.tick(9);
        check.due("patience did not begin anew", x.told(0, 6), 1);
        x.tick(1);
        check.due("patience did not begin anew", x.told(0, 6), 2);
        x.down(1);
        check.due("after down", x.up(1), 1);
        check.due("up again", x.up(1), -2);
        x.octet(1, (byte) 0);
        check.due("after a wrong byte", x.up(1), 1);
        check.due("up again", x.up(1), -2);
    }

    private static void howManyFrames(Check check) {
        check.sentence("how many frames went out by that");
        for (int requests = 0; requests <= 3; requests++) {
            FederationWire x = new FederationWire();
            Talk.askFor(x, 0, 1);
            for (int i = 0; i < requests; i++) {
                Talk.askFor(x, 1, 1);
            }
            check.due(requests + " requests", x.up(1), requests);
            check.due("out row", x.line(1, 1), 7 * requests);
            check.due("no other is lost", x.count(5), 1 + requests);
        }
    }

    private static void thoseThatWaitAlone(Check check) {
        check.sentence("how many frames went out by that (of requests that wait)");
        FederationWire x = new FederationWire();
        x.up(2);
        x.ask(2, false);
        for (int i = 1; i <= 4; i++) {
            Talk.askFor(x, 2, 1);
        }
        Talk.say(x, 2, Talk.ROWS, 1, 0, 0);
        Talk.say(x, 2, Talk.CANT, 2, 0);
        Talk.say(x, 2, Talk.ROWS, 3, 0, 1);
        x.down(2);
        check.due("up", x.up(2), 2);
        check.due("out row", Talk.drain(x, 2),
                Talk.text(Talk.frame(3, 3, 1, 0), Talk.frame(1, 4, 0, 1)));
        check.due("none is lost", x.count(5), 0);
    }

    /** 290 bytes, 11 more would be too many, 10 more are just not. */
    private static void wereNotLost(Check check) {
        check.sentence("(were not lost)");
        FederationWire x = Talk.wide(1);
        Talk.askForEight(x, 0, 20);
        Talk.askFor(x, 0, 4);
        Talk.askFor(x, 0, 5);
        Talk.askFor(x, 0, 4);
        check.due("lost", x.count(5), 23);
        check.due("one of 23 is lost", x.up(0), 22);
        check.due("lost", x.count(5), 24);
        check.due("out row", x.line(0, 1), 300);
        FederationWire y = new FederationWire();
        y.setting(0, 8);
        Talk.askForEight(y, 0, 24);
        check.due("21 frames of 14 bytes fit", y.up(0), 21);
        check.due("lost", y.count(5), 27);
        check.due("out row", y.line(0, 1), 294);
    }
}
