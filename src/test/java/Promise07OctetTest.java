/** Promise 7: bytes that come, one by one; frames that are used, dropped or wrong. */
public final class Promise07OctetTest {
    public static void main(String[] args) {
        Check check = new Check();
        noLine(check);
        for (int line = 0; line < 5; line++) {
            wrongBytes(check, line);
            lengths(check, line);
        }
        whatIsGoneWithAWrongByte(check);
        droppedOnHouses(check);
        droppedOnTheServingLine(check);
        cant(check);
        manyRows(check);
        check.end();
    }

    private static void noLine(Check check) {
        FederationWire x = new FederationWire();
        check.due("octet(-1)", x.octet(-1, (byte) 126), -1);
        check.due("octet(5)", x.octet(5, (byte) 126), -1);
        check.due("octet(MIN)", x.octet(Integer.MIN_VALUE, (byte) 126), -1);
        check.due("octet(0)", x.octet(0, (byte) 126), -2);
        check.due("octet(3)", x.octet(3, (byte) 0), -2);
        check.due("octet(4)", x.octet(4, (byte) 126), 0);
    }

    /** The bytes come on a new object's line, the last one alone being wrong. */
    private static void wrong(Check check, int line, int... bytes) {
        FederationWire x = new FederationWire();
        x.up(line);
        String what = "line " + line + ", byte " + (bytes.length - 1);
        for (int i = 0; i + 1 < bytes.length; i++) {
            check.due(what, x.octet(line, (byte) bytes[i]), 0);
            check.due(what, x.line(line, 2), i + 1);
        }
        check.due(what, x.octet(line, (byte) bytes[bytes.length - 1]), -10);
        check.due(what, x.line(line, 2), 0);
        check.due(what, x.line(line, 0), line == 4 ? 1 : 0);
        check.due(what, x.count(4), 0);
    }

    private static void wrongBytes(Check check, int line) {
        wrong(check, line, 0);
        wrong(check, line, 125);
        wrong(check, line, 127);
        wrong(check, line, 254);
        wrong(check, line, 126, 0);
        wrong(check, line, 126, 5);
        wrong(check, line, 126, 126);
        wrong(check, line, 126, 255);
        wrong(check, line, 126, 2, 0, 4, 0, 2);
        wrong(check, line, 126, 2, 0, 2, 0, 255);
        wrong(check, line, 126, 2, 0, 2, 7, 1, 7);
        wrong(check, line, 126, 4, 1, 1, 9, 12);
        wrong(check, line, 126, 1, 200, 2, 100, 3, 0);
        wrong(check, line, 126, 3, 1, 2, 255, 7, 126);
    }

    private static void lengths(Check check, int line) {
        for (int kind = 1; kind <= 4; kind++) {
            for (int length = 0; length < 256; length++) {
                boolean can = kind == 1 ? length >= 2 && length <= 9
                        : kind == 2 ? length >= 2 && length <= 18 && length % 2 == 0
                        : kind == 3 ? length == 2 : length == 1;
                FederationWire x = new FederationWire();
                x.up(line);
                Talk.feed(x, line, 126, kind, 17);
                check.due("length " + length + " of kind " + kind,
                        x.octet(line, (byte) length), can ? 0 : -10);
            }
        }
        FederationWire x = new FederationWire();
        x.up(line);
        boolean serving = line == 4;
        check.due("ASK of 9", Talk.say(x, line, 1, 255, 255, 1, 2, 3, 4, 5, 6, 126, 255),
                serving ? 1 : 11);
        check.due("ROWS of 18", Talk.say(x, line, 2, 126, Talk.rowsBody(126, 1, 126, 120, 8)), 12);
        check.due("ROWS of 2", Talk.say(x, line, 2, 1, 200, 1), 12);
        check.due("MORE", Talk.say(x, line, 3, 1, 2, 200), serving ? 3 : 13);
        check.due("CAN'T", Talk.say(x, line, 4, 1, 128), 14);
        check.due("dropped", x.count(4), serving ? 3 : 5);
        check.due("no frame is open", x.line(line, 2), 0);
    }

    private static void whatIsGoneWithAWrongByte(Check check) {
        FederationWire x = Talk.asked(1, false, 1);
        check.due("out row", x.line(1, 1), 7);
        check.due("wrong", x.octet(1, (byte) 1), -10);
        check.due("out row", x.line(1, 1), 0);
        check.due("not up", x.octet(1, (byte) 126), -2);
        check.due("the request waits", x.told(0, 1), 0);
        Talk.say(x, 4, Talk.ASK, 3, 0, 1);
        check.due("out row of line 4", x.line(4, 1), 7);
        Talk.feed(x, 4, 126, 1);
        check.due("wrong", Talk.feed(x, 4, 3, 1), -10);
        check.due("out row of line 4", x.line(4, 1), 7);
        check.due("repeat after that", Talk.say(x, 4, Talk.ASK, 3, 0, 1), 1);
        check.due("repeats", x.count(6), 1);
    }

    private static void droppedOnHouses(Check check) {
        FederationWire x = Talk.asked(1, false, 5);
        x.up(2);
        check.due("other line", Talk.say(x, 2, Talk.ROWS, 0, 0, 0), 12);
        check.due("other line", Talk.say(x, 2, Talk.CANT, 0, 0), 14);
        check.due("other number", Talk.say(x, 1, Talk.ROWS, 1, 0, 0), 12);
        check.due("number of none", Talk.say(x, 1, Talk.ROWS, 255, 0, 0), 12);
        check.due("other step", Talk.say(x, 1, Talk.ROWS, 0, 1, 0), 12);
        check.due("other step", Talk.say(x, 1, Talk.CANT, 0, 255), 14);
        check.due("ASK", Talk.say(x, 1, Talk.ASK, 0, 0, 0), 11);
        check.due("MORE", Talk.say(x, 1, Talk.MORE, 0, 0, 0), 13);
        check.due("dropped", x.count(4), 8);
        check.due("it waits", Talk.told(x, 0), "1 0 0 0 0 0 0 1");
        check.due("ROWS", Talk.say(x, 1, Talk.ROWS, 0, 0, 1), 2);
        check.due("the step before", Talk.say(x, 1, Talk.ROWS, 0, 0, 0), 12);
        check.due("ROWS", Talk.say(x, 1, Talk.ROWS, 0, 1, 0), 2);
        check.due("it is done", Talk.say(x, 1, Talk.ROWS, 0, 1, 0), 12);
        check.due("it is done", Talk.say(x, 1, Talk.CANT, 0, 1), 14);
        check.due("dropped", x.count(4), 11);
        check.due("told", Talk.told(x, 0), "1 1 0 0 0 1 0 1");
        check.due("lines are up", x.line(1, 0) + x.line(2, 0), 2);
    }

    private static void droppedOnTheServingLine(Check check) {
        FederationWire x = Talk.asked(1, false, 5);
        check.due("ROWS", Talk.say(x, 4, Talk.ROWS, 0, 0, 0), 12);
        check.due("CAN'T", Talk.say(x, 4, Talk.CANT, 0, 0), 14);
        check.due("dropped", x.count(4), 2);
        check.due("it waits", x.told(0, 1), 0);
        check.due("no answer", x.line(4, 1), 0);
        check.due("ASK", Talk.say(x, 4, Talk.ASK, 0, 0, 0), 1);
        check.due("MORE", Talk.say(x, 4, Talk.MORE, 9, 0, 0), 3);
    }

    private static void cant(Check check) {
        FederationWire x = Talk.asked(0, false, 5);
        Talk.say(x, 0, Talk.ROWS, 0, 0, 1, 5, 50);
        check.due("CAN'T", Talk.say(x, 0, Talk.CANT, 0, 1), 4);
        check.due("rows are kept", Talk.told(x, 0), "0 2 3 1 0 1 0 1");
        check.due("it is over", Talk.say(x, 0, Talk.ROWS, 0, 1, 0), 12);
        check.due("estimate", x.estimate(0), 1000);
        FederationWire y = Talk.asked(0, true, 5);
        Talk.say(y, 0, Talk.ROWS, 0, 0, 1, 5, 50);
        check.due("CAN'T", Talk.say(y, 0, Talk.CANT, 0, 1), 4);
        check.due("a silent one", Talk.told(y, 0), "0 1 3 0 1 1 0 1");
        check.due("estimate", y.estimate(0), 1000);
    }

    /** Rows beyond 60 are left out, but MORE counts all that came. */
    private static void manyRows(Check check) {
        FederationWire x = Talk.asked(3, false, 5);
        Talk.drain(x, 3);
        for (int i = 0; i < 9; i++) {
            Talk.say(x, 3, Talk.ROWS, 0, Talk.rowsBody(i, 1, i, 0, 8));
            check.due("rows", x.told(0, 3), Math.min(60, 8 * (i + 1)));
            check.due("more", Talk.drain(x, 3), Talk.text(Talk.frame(3, 0, i + 1, 8 * (i + 1))));
        }
        check.due("the last that it has", x.row(0, 59, 0) * 10 + x.row(0, 59, 1), 73);
        check.due("no other", x.row(0, 60, 0), -2);
    }
}
