/** Promise 3: a line goes down, and its out row and open frame are gone. */
public final class Promise03DownTest {
    public static void main(String[] args) {
        Check check = new Check();
        FederationWire x = Talk.asked(1, false, 5, 6);
        check.due("down(-1)", x.down(-1), -1);
        check.due("down(4)", x.down(4), -1);
        check.due("down(5)", x.down(5), -1);
        check.due("down(0)", x.down(0), -2);
        Talk.feed(x, 1, 126, 2, 0);
        check.due("out row", x.line(1, 1), 8);
        check.due("open frame", x.line(1, 2), 3);
        check.due("down(1)", x.down(1), 1);
        check.due("is up", x.line(1, 0), 0);
        check.due("out row", x.line(1, 1), 0);
        check.due("open frame", x.line(1, 2), 0);
        check.due("down again", x.down(1), -2);
        check.due("nothing counts as lost", x.count(5), 0);
        check.due("the request waits", x.told(0, 1), 0);
        x.up(1);
        check.due("a new frame begins", x.octet(1, (byte) 126), 0);
        check.due("line 4 is up", x.line(4, 0), 1);
        check.end();
    }
}
