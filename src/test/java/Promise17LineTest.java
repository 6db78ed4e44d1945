/** Promise 17: what a line is. */
public final class Promise17LineTest {
    public static void main(String[] args) {
        Check check = new Check("Promise 17");
        bad(check);
        whetherItIsUp(check);
        bytesInItsOutRow(check);
        bytesOfTheOpenFrame(check);
        check.end();
    }

    private static void bad(Check check) {
        check.sentence("BAD");
        FederationWire x = new FederationWire();
        for (int line : new int[] {-1, 5, Integer.MAX_VALUE, Integer.MIN_VALUE}) {
            for (int what = 0; what < 3; what++) {
                check.due("line(" + line + ", " + what + ")", x.line(line, what), -1);
            }
        }
        for (int what : new int[] {-1, 3, Integer.MAX_VALUE, Integer.MIN_VALUE}) {
            check.due("line(0, " + what + ")", x.line(0, what), -1);
            check.due("line(4, " + what + ")", x.line(4, what), -1);
        }
        check.due("line(0, 0)", x.line(0, 0), 0);
        check.due("line(4, 2)", x.line(4, 2), 0);
    }

    private static void whetherItIsUp(Check check) {
        check.sentence("Whether a line is up (what = 0)");
        FederationWire x = new FederationWire();
        for (int line = 0; line < 4; line++) {
            check.due("at first", x.line(line, 0), 0);
            x.up(line);
            check.due("up", x.line(line, 0), 1);
            x.down(line);
            check.due("down", x.line(line, 0), 0);
            x.up(line);
            x.octet(line, (byte) 126);
            check.due("after a right byte", x.line(line, 0), 1);
            x.octet(line, (byte) 126);
            check.due("after a wrong byte", x.line(line, 0), 0);
        }
        check.due("line 4", x.line(4, 0), 1);
    }

    private static void bytesInItsOutRow(Check check) {
        check.sentence("how many bytes are in its out row (1)");
        FederationWire x = new FederationWire();
        Talk.askFor(x, 1, 1);
        check.due("not up", x.line(1, 1), 0);
        x.up(1);
        check.due("a frame", x.line(1, 1), 7);
        x.out(1);
        check.due("a byte less", x.line(1, 1), 6);
        x.tick(10);
        check.due("a frame more", x.line(1, 1), 13);
        x.loop(1, 5);
        check.due("five bytes less", x.line(1, 1), 8);
        x.down(1);
        check.due("down", x.line(1, 1), 0);
        FederationWire y = new FederationWire();
        for (int i = 1; i <= 51; i++) {
            Talk.say(y, 4, Talk.MORE, 9, i, 0);
            check.due("line 4", y.line(4, 1), Math.min(6 * i, 300));
        }
        check.due("other lines", y.line(0, 1) + y.line(1, 1) + y.line(2, 1) + y.line(3, 1), 0);
    }

    private static void bytesOfTheOpenFrame(Check check) {
        check.sentence("[how many bytes] of the frame that is open (2)");
        for (int line = 0; line < 5; line++) {
            FederationWire x = new FederationWire();
            x.up(line);
            int[] frame = Talk.frame(Talk.ROWS, 0, Talk.rowsBody(0, 0, 3, 30, 8));
            for (int i = 0; i < frame.length; i++) {
                check.due("open", x.line(line, 2), i);
                x.octet(line, (byte) frame[i]);
            }
            check.due("it came to its end", x.line(line, 2), 0);
            Talk.feed(x, line, 126, 1, 7);
            check.due("open", x.line(line, 2), 3);
            x.octet(line, (byte) 10);
            check.due("a wrong byte", x.line(line, 2), 0);
        }
        FederationWire x = new FederationWire();
        x.up(1);
        Talk.feed(x, 1, 126, 1, 7);
        check.due("other lines", x.line(0, 2) + x.line(2, 2) + x.line(4, 2), 0);
        x.down(1);
        check.due("down", x.line(1, 2), 0);
    }
}
