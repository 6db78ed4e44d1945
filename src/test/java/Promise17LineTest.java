/** Promise 17: what a line is. */
public final class Promise17LineTest {
    public static void main(String[] args) {
        Check check = new Check();
        FederationWire x = new FederationWire();
        check.due("line(-1, 0)", x.line(-1, 0), -1);
        check.due("line(5, 0)", x.line(5, 0), -1);
        check.due("line(MIN, 0)", x.line(Integer.MIN_VALUE, 0), -1);
        check.due("line(0, -1)", x.line(0, -1), -1);
        check.due("line(0, 3)", x.line(0, 3), -1);
        check.due("line(4, 3)", x.line(4, 3), -1);
        x.up(1);
        check.due("line(1, 0)", x.line(1, 0), 1);
        check.due("line(0, 0)", x.line(0, 0), 0);
        check.due("line(4, 0)", x.line(4, 0), 1);
        x.bind(3, 3);
        x.ask(1, false);
        check.due("out row", x.line(1, 1), 7);
        x.out(1);
        check.due("out row", x.line(1, 1), 6);
        int[] frame = Talk.frame(2, 0, 0, 0, 3, 30);
        for (int i = 0; i + 1 < frame.length; i++) {
            check.due("open frame", x.line(1, 2), i);
            x.octet(1, (byte) frame[i]);
        }
        check.due("open frame", x.line(1, 2), 8);
        x.octet(1, (byte) frame[8]);
        check.due("no open frame", x.line(1, 2), 0);
        check.due("other lines", x.line(0, 1) + x.line(2, 2) + x.line(4, 1) + x.line(4, 2), 0);
        Talk.feed(x, 4, 126, 1);
        check.due("open frame of line 4", x.line(4, 2), 2);
        x.octet(4, (byte) 0);
        x.octet(4, (byte) 1);
        check.due("gone with a wrong byte", x.line(4, 2), 0);
        check.due("line 4 stays up", x.line(4, 0), 1);
        check.end();
    }
}
