/** Promise 7: what is answered to a byte that comes (which are wrong: TermsFramesTest). */
public final class Promise07OctetTest {
    public static void main(String[] args) {
        Check check = new Check("Promise 7");
        aFrameIsOpen(check);
        theFramesKind(check);
        tenMoreWhenDropped(check);
        noSuchLine(check);
        notUp(check);
        wrongOnes(check);
        bytesAreUnsigned(check);
        check.end();
    }

    private static void aFrameIsOpen(Check check) {
        check.sentence("0 when a frame is open then");
        for (int line = 0; line < 5; line++) {
            FederationWire x = new FederationWire();
            x.up(line);
            int[] frame = Talk.frame(Talk.ROWS, 3, Talk.rowsBody(7, 1, 9, 1, 8));
            for (int i = 0; i + 1 < frame.length; i++) {
                check.due("byte " + i, x.octet(line, (byte) frame[i]), 0);
                check.due("open", x.line(line, 2), i + 1);
            }
            check.due("the last", x.octet(line, (byte) frame[frame.length - 1]), 12);
            check.due("none is open", x.line(line, 2), 0);
        }
    }

    private static void theFramesKind(Check check) {
        check.sentence("the frame's kind when it was its last one and it was not dropped");
        FederationWire x = Talk.asked(1, false, 5);
        check.due("ASK", Talk.say(x, 4, Talk.ASK, 77, 0, 5), 1);
        check.due("an ASK that is a repeat", Talk.say(x, 4, Talk.ASK, 77, 0, 5), 1);
        check.due("MORE", Talk.say(x, 4, Talk.MORE, 77, 0, 0), 3);
        check.due("a MORE that is answered by CAN'T", Talk.say(x, 4, Talk.MORE, 78, 0, 0), 3);
        check.due("ROWS, more", Talk.say(x, 1, Talk.ROWS, 0, 0, 1), 2);
        check.due("ROWS, the last", Talk.say(x, 1, Talk.ROWS, 0, 1, 0), 2);
        Talk.askFor(x, 1, 1);
        check.due("CAN'T", Talk.say(x, 1, Talk.CANT, 1, 0), 4);
        check.due("dropped", x.count(4), 0);
    }

    private static void tenMoreWhenDropped(Check check) {
        check.sentence("10 more when it was [dropped]");
        FederationWire x = Talk.asked(1, false, 5);
        check.due("ASK", Talk.say(x, 1, Talk.ASK, 0, 0, 5), 11);
        check.due("ROWS of another step", Talk.say(x, 1, Talk.ROWS, 0, 1, 0), 12);
        check.due("MORE", Talk.say(x, 1, Talk.MORE, 0, 0, 0), 13);
        check.due("CAN'T of another step", Talk.say(x, 1, Talk.CANT, 0, 1), 14);
        check.due("ROWS on line 4", Talk.say(x, 4, Talk.ROWS, 0, 0, 0), 12);
        check.due("CAN'T on line 4", Talk.say(x, 4, Talk.CANT, 0, 0), 14);
        check.due("dropped", x.count(4), 6);
        check.due("lines stay up", x.line(1, 0) + x.line(4, 0), 2);
        check.due("the request waits", Talk.told(x, 0), "1 0 0 0 0 0 0 1");
    }

    private static void noSuchLine(Check check) {
        check.sentence("BAD: no such line");
        FederationWire x = new FederationWire();
        for (int line : new int[] {-1, 5, Integer.MAX_VALUE, Integer.MIN_VALUE}) {
            check.due("octet(" + line + ", 126)", x.octet(line, (byte) 126), -1);
            check.due("octet(" + line + ", 0)", x.octet(line, (byte) 0), -1);
        }
        x.up(0);
        check.due("octet(0, 126)", x.octet(0, (byte) 126), 0);
        check.due("octet(4, 126)", x.octet(4, (byte) 126), 0);
    }

    private static void notUp(Check check) {
        check.sentence("NO: it is not up");
        FederationWire x = new FederationWire();
        for (int line = 0; line < 4; line++) {
            check.due("126", x.octet(line, (byte) 126), -2);
            check.due("a byte that were wrong", x.octet(line, (byte) 0), -2);
            check.due("no frame is open", x.line(line, 2), 0);
            x.up(line);
            check.due("up", x.octet(line, (byte) 126), 0);
            x.down(line);
            check.due("down", x.octet(line, (byte) 2), -2);
            x.up(line);
            check.due("up again: no frame is open", x.octet(line, (byte) 2), -10);
            check.due("wrong before", x.octet(line, (byte) 126), -2);
        }
        check.due("line 4 is up always", x.octet(4, (byte) 126), 0);
    }

    private static void wrongOnes(Check check) {
        check.sentence("-10 when it is WRONG");
        for (int line = 0; line < 5; line++) {
            FederationWire x = new FederationWire();
            x.up(line);
            check.due("126", x.octet(line, (byte) 126), 0);
            check.due("4", x.octet(line, (byte) 4), 0);
            check.due("0", x.octet(line, (byte) 0), 0);
            check.due("1", x.octet(line, (byte) 1), 0);
            check.due("0", x.octet(line, (byte) 0), 0);
            check.due("another sum", x.octet(line, (byte) 4), -10);
            check.due("it is not dropped", x.count(4), 0);
            check.due("the next one", x.octet(line, (byte) 126), line == 4 ? 0 : -2);
        }
    }

    private static void bytesAreUnsigned(Check check) {
        check.sentence("A byte comes on a line (those above 127)");
        FederationWire x = new FederationWire();
        x.fact(255, 128);
        x.fact(128, 255);
        check.due("served", Talk.answer(x, Talk.ASK, 255, 254, 255, 128),
                Talk.text(Talk.frame(2, 255, 254, 0, 255, 128, 128, 255)));
        FederationWire y = Talk.asked(0, false, 255);
        Talk.say(y, 0, Talk.ROWS, 0, 0, 0, 255, 128, 127, 129);
        check.due("rows", Talk.rows(y, 0), "255:128 127:129");
        check.due("a second byte of ROWS of 129", Talk.feed(y, 0, 126, 2, 0, 2, 1, 129), -10);
    }
}
