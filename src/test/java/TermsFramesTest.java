/** Terms, FRAMES and bytes that come: which are right, which are wrong, and what goes then. */
public final class TermsFramesTest {
    public static void main(String[] args) {
        Check check = new Check("Terms, frames (promise 7)");
        for (int line = 0; line < 5; line++) {
            start(check, line);
            kinds(check, line);
            numbers(check, line);
            lengths(check, line);
            secondByteOfRows(check, line);
            sums(check, line);
            bytesOfTheOpenFrame(check, line);
        }
        sumOfWhatIsSent(check);
        lineIsUpNoMore(check);
        openFrameAloneIsGone(check);
        check.end();
    }

    private static FederationWire withLine(int line) {
        FederationWire x = new FederationWire();
        x.up(line);
        return x;
    }

    /** The last of the bytes alone is wrong: the others keep the frame open. */
    private static void wrong(Check check, int line, int... bytes) {
        FederationWire x = withLine(line);
        int last = bytes.length - 1;
        String what = "line " + line + ", byte " + last + " being " + bytes[last];
        for (int i = 0; i < last; i++) {
            check.due(what + ": byte " + i, x.octet(line, (byte) bytes[i]), 0);
            check.due(what + ": open", x.line(line, 2), i + 1);
        }
        check.due(what, x.octet(line, (byte) bytes[last]), -10);
        check.due(what + ": open then", x.line(line, 2), 0);
        check.due(what + ": up then", x.line(line, 0), line == 4 ? 1 : 0);
        check.due(what + ": dropped", x.count(4), 0);
    }

    private static void right(Check check, int line, int... bytes) {
        FederationWire x = withLine(line);
        String what = "line " + line + ", byte " + (bytes.length - 1) + " being "
                + bytes[bytes.length - 1];
        check.due(what, Talk.feed(x, line, bytes), 0);
        check.due(what + ": open then", x.line(line, 2), bytes.length);
        check.due(what + ": up then", x.line(line, 0), 1);
    }

    private static void whole(Check check, int line, int kind, int number, int... body) {
        FederationWire x = withLine(line);
        boolean served = line == 4 && (kind == Talk.ASK || kind == Talk.MORE);
        check.due("line " + line + ", kind " + kind + ", number " + number + ", length "
                + body.length, Talk.say(x, line, kind, number, body), served ? kind : kind + 10);
        check.due("no frame is open", x.line(line, 2), 0);
        check.due("the line is up", x.line(line, 0), 1);
        check.due("dropped", x.count(4), served ? 0 : 1);
    }

    private static void start(Check check, int line) {
        check.sentence("when none is [open], it has to be 126");
        for (int b = 0; b < 256; b++) {
            if (b != 126) {
                wrong(check, line, b);
            }
        }
        right(check, line, 126);
        FederationWire x = withLine(line);
        Talk.say(x, line, Talk.CANT, 0, 0);
        check.due("behind a whole frame: 125", x.octet(line, (byte) 125), -10);
        x = withLine(line);
        Talk.say(x, line, Talk.CANT, 0, 0);
        check.due("behind a whole frame: 126", x.octet(line, (byte) 126), 0);
    }

    private static void kinds(Check check, int line) {
        check.sentence("a KIND 1 .. 4 .. a kind that is none");
        for (int kind = 0; kind < 256; kind++) {
            if (kind >= 1 && kind <= 4) {
                right(check, line, 126, kind);
            } else {
                wrong(check, line, 126, kind);
            }
        }
    }

    private static void numbers(Check check, int line) {
        check.sentence("a NUMBER (any byte)");
        for (int number = 0; number < 256; number++) {
            right(check, line, 126, 2, number);
        }
        whole(check, line, Talk.CANT, 0, 0);
        whole(check, line, Talk.ASK, 255, 255, 255);
    }

    private static boolean canHave(int kind, int length) {
        switch (kind) {
            case Talk.ASK: return length >= 2 && length <= 9;
            case Talk.ROWS: return length >= 2 && length <= 18 && length % 2 == 0;
            case Talk.MORE: return length == 2;
            default: return length == 1;
        }
    }

    private static void lengths(Check check, int line) {
        for (int kind = 1; kind <= 4; kind++) {
            check.sentence("a length that the kind can't have (ASK 2 .. 9; ROWS 2, 4, .. 18; "
                    + "MORE 2; CAN'T 1): kind " + kind);
            for (int length = 0; length < 256; length++) {
                if (canHave(kind, length)) {
                    right(check, line, 126, kind, 17, length);
                    whole(check, line, kind, 17, new int[length]);
                } else {
                    wrong(check, line, 126, kind, 17, length);
                }
            }
        }
    }

    private static void secondByteOfRows(Check check, int line) {
        check.sentence("a second byte of ROWS above 1");
        for (int b = 0; b < 256; b++) {
            if (b <= 1) {
                right(check, line, 126, 2, 9, 4, 200, b);
            } else {
                wrong(check, line, 126, 2, 9, 4, 200, b);
            }
        }
        whole(check, line, Talk.ROWS, 9, 2, 0);
        whole(check, line, Talk.ROWS, 9, 2, 1);
        wrong(check, line, 126, 2, 9, 2, 0, 2);
        right(check, line, 126, 2, 9, 4, 2, 1, 2);
        right(check, line, 126, 2, 9, 4, 2, 1, 255, 255);
        right(check, line, 126, 1, 9, 3, 2, 2);
        right(check, line, 126, 3, 9, 2, 2, 2);
        whole(check, line, Talk.MORE, 9, 2, 255);
    }

    private static void sums(Check check, int line) {
        check.sentence("a SUM: the xor of kind, number, length and these bytes .. or another SUM");
        int[][] frames = {
            Talk.frame(Talk.ASK, 200, 100, 3), Talk.frame(Talk.ASK, 1, 9, 8, 7, 6, 5, 4, 3, 2, 1),
            Talk.frame(Talk.ROWS, 0, 0, 0), Talk.frame(Talk.ROWS, 3, Talk.rowsBody(7, 1, 9, 1, 8)),
            Talk.frame(Talk.MORE, 5, 255, 7), Talk.frame(Talk.CANT, 1, 9),
        };
        for (int[] bytes : frames) {
            int last = bytes.length - 1;
            int sum = bytes[last];
            for (int bit = 1; bit < 256; bit *= 2) {
                bytes[last] = sum ^ bit;
                wrong(check, line, bytes);
            }
            bytes[last] = sum;
            int kind = bytes[1];
            FederationWire x = withLine(line);
            boolean served = line == 4 && (kind == Talk.ASK || kind == Talk.MORE);
            check.due("the right sum", Talk.feed(x, line, bytes), served ? kind : kind + 10);
        }
    }

    private static void bytesOfTheOpenFrame(Check check, int line) {
        check.sentence("A BYTE THAT COMES on a line belongs to the frame that is open there");
        whole(check, line, Talk.CANT, 126, 126);
        whole(check, line, Talk.ASK, 126, 126, 126, 126, 126);
        whole(check, line, Talk.ROWS, 126, 126, 1, 126, 126);
        // 4 ^ 126 ^ 1 ^ 5: the sum is 126, too
        whole(check, line, Talk.CANT, 126, 5);
        wrong(check, line, 126, 126);
        wrong(check, line, 126, 4, 126, 126);
        FederationWire x = withLine(line);
        for (int i = 0; i < 3; i++) {
            check.due("frame " + i, Talk.say(x, line, Talk.CANT, i, 0), 14);
        }
        int other = line == 4 ? 0 : 4;
        x.up(other);
        Talk.feed(x, line, 126, 4);
        check.due("each line has its own", Talk.say(x, other, Talk.CANT, 0, 0), 14);
        check.due("open on the first", x.line(line, 2), 2);
        check.due("its rest", Talk.feed(x, line, 7, 1, 0, 4 ^ 7 ^ 1), 14);
    }

    private static void sumOfWhatIsSent(Check check) {
        check.sentence("FRAMES are 126, a KIND 1 .. 4, a NUMBER, a LENGTH, so many bytes, and a "
                + "SUM");
        FederationWire x = Talk.asked(0, false, 255, 128);
        check.due("ASK", Talk.drain(x, 0), "126 1 0 3 0 255 128 " + (1 ^ 3 ^ 255 ^ 128));
        Talk.say(x, 0, Talk.ROWS, 0, 0, 1, 255, 1);
        check.due("MORE", Talk.drain(x, 0), "126 3 0 2 1 1 " + (3 ^ 2));
        check.due("CAN'T", Talk.answer(x, Talk.MORE, 200, 100, 0),
                "126 4 200 1 100 " + (4 ^ 200 ^ 1 ^ 100));
        x.fact(255, 254);
        check.due("ROWS", Talk.answer(x, Talk.ASK, 200, 100, 255),
                "126 2 200 4 100 0 255 254 " + (2 ^ 200 ^ 4 ^ 100 ^ 255 ^ 254));
    }

    private static void lineIsUpNoMore(Check check) {
        check.sentence("On lines 0 .. 3 the line is up no more then (out row and open frame are "
                + "gone)");
        for (int line = 0; line < 4; line++) {
            FederationWire x = Talk.asked(line, false, 1);
            x.up((line + 1) % 4);
            Talk.feed(x, line, 126, 2);
            check.due("out row", x.line(line, 1), 7);
            check.due("wrong", Talk.feed(x, line, 0, 3), -10);
            check.due("up", x.line(line, 0), 0);
            check.due("out row", x.line(line, 1), 0);
            check.due("open frame", x.line(line, 2), 0);
            check.due("out", x.out(line), -2);
            check.due("the next byte", x.octet(line, (byte) 126), -2);
            check.due("other lines stay", x.line((line + 1) % 4, 0), 1);
            check.due("the request waits", x.told(0, 1), 0);
            check.due("nothing is lost", x.count(5), 0);
            check.due("up again", x.up(line), 1);
            check.due("a frame begins anew", Talk.say(x, line, Talk.ROWS, 0, 0, 0), 2);
        }
    }

    private static void openFrameAloneIsGone(Check check) {
        check.sentence("on line 4 the open frame alone is gone");
        FederationWire x = new FederationWire();
        x.fact(1, 10);
        Talk.say(x, 4, Talk.ASK, 3, 0, 1);
        Talk.feed(x, 4, 126, 1, 3);
        check.due("open frame", x.line(4, 2), 3);
        check.due("wrong", x.octet(4, (byte) 1), -10);
        check.due("open frame", x.line(4, 2), 0);
        check.due("up", x.line(4, 0), 1);
        check.due("out row", Talk.drain(x, 4), Talk.text(Talk.frame(2, 3, 0, 0, 1, 10)));
        check.due("what is remembered", x.count(7), 1);
        check.due("a repeat", Talk.answer(x, Talk.ASK, 3, 0, 1),
                Talk.text(Talk.frame(2, 3, 0, 0, 1, 10)));
        check.due("repeats", x.count(6), 1);
        x.octet(4, (byte) 126);
        check.due("126 as a kind", x.octet(4, (byte) 126), -10);
        check.due("it opens no frame", x.line(4, 2), 0);
        check.due("a kind without a frame", x.octet(4, (byte) 1), -10);
    }
}
