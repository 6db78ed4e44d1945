/** Promise 3: a line goes down, and its out row and open frame are gone. */
public final class Promise03DownTest {
    public static void main(String[] args) {
        Check check = new Check("Promise 3");
        upNoMore(check);
        asByAWrongByte(check);
        bad(check);
        itWasNot(check);
        check.end();
    }

    private static void upNoMore(Check check) {
        check.sentence("A line is up no more: 1");
        for (int line = 0; line < 4; line++) {
            FederationWire x = new FederationWire();
            for (int other = 0; other < 4; other++) {
                x.up(other);
            }
            check.due("down(" + line + ")", x.down(line), 1);
            for (int other = 0; other < 5; other++) {
                check.due("line " + other, x.line(other, 0), other == line ? 0 : 1);
            }
        }
    }

    private static void asByAWrongByte(Check check) {
        check.sentence("(as by a byte that is wrong)");
        FederationWire x = Talk.asked(1, false, 5, 6);
        Talk.say(x, 4, Talk.ASK, 9, 0, 1);
        Talk.feed(x, 4, 126, 1);
        Talk.feed(x, 1, 126, 2, 0);
        check.due("out row", x.line(1, 1), 8);
        check.due("open frame", x.line(1, 2), 3);
        check.due("down", x.down(1), 1);
        check.due("out row", x.line(1, 1), 0);
        check.due("out", x.out(1), -2);
        check.due("open frame", x.line(1, 2), 0);
        check.due("nothing is lost", x.count(5), 0);
        check.due("the request waits", Talk.told(x, 0), "1 0 0 0 0 0 0 2");
        check.due("line 4's out row", x.line(4, 1), 7);
        check.due("line 4's open frame", x.line(4, 2), 2);
        check.due("up", x.up(1), 1);
        check.due("the open frame is not there again", x.octet(1, (byte) 2), -10);
    }

    private static void bad(Check check) {
        check.sentence("BAD");
        FederationWire x = new FederationWire();
        x.up(0);
        x.up(3);
        Talk.say(x, 4, Talk.ASK, 9, 0, 1);
        Talk.feed(x, 4, 126, 1);
        for (int line : new int[] {-1, 4, 5, Integer.MAX_VALUE, Integer.MIN_VALUE}) {
            check.due("down(" + line + ")", x.down(line), -1);
        }
        check.due("line 4 is up always", x.line(4, 0), 1);
        check.due("line 4's out row", x.line(4, 1), 7);
        check.due("line 4's open frame", x.line(4, 2), 2);
        check.due("down(0)", x.down(0), 1);
        check.due("down(3)", x.down(3), 1);
    }

    private static void itWasNot(Check check) {
        check.sentence("NO: it was not");
        FederationWire x = new FederationWire();
        for (int line = 0; line < 4; line++) {
            check.due("at first", x.down(line), -2);
            x.up(line);
            check.due("it was", x.down(line), 1);
            check.due("once more", x.down(line), -2);
            x.up(line);
            x.octet(line, (byte) 0);
            check.due("after a wrong byte", x.down(line), -2);
        }
    }
}
