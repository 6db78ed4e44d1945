/** Promise 9: the out row of a line comes on the serving line, and its answers come back. */
public final class Promise09LoopTest {
    public static void main(String[] args) {
        Check check = new Check("Promise 9");
        firstBytes(check);
        thereAndBack(check);
        wrongBytesOnTheServingLine(check);
        allThatIsThere(check);
        asLongAsThatIsUp(check);
        whatIsLeftGoes(check);
        lastByteIsWrong(check);
        lostAnswers(check);
        noSuchLine(check);
        belowZero(check);
        notUp(check);
        check.end();
    }

    private static void firstBytes(Check check) {
        check.sentence("The first n bytes (all, if there are less) of the out row of a line 0 .. 3 "
                + "come, one by one, on line 4");
        for (int n : new int[] {0, 1, 3, 6, 7, 8, 300, 301, Integer.MAX_VALUE}) {
            FederationWire x = Talk.asked(2, false, 3);
            x.fact(3, 30);
            check.due("loop(2, " + n + ")", x.loop(2, n), n < 7 ? 0 : 9);
            check.due("left", x.line(2, 1), n < 7 ? 7 - n : 0);
            check.due("open on line 4", x.line(4, 2), n < 7 ? n : 0);
            check.due("rows", Talk.rows(x, 0), n < 7 ? "" : "3:30");
        }
        FederationWire x = Talk.asked(2, false, 3);
        for (int i = 1; i <= 6; i++) {
            check.due("a byte", x.loop(2, 1), 0);
            check.due("left", x.line(2, 1), 7 - i);
            check.due("open", x.line(4, 2), i);
        }
        check.due("the last byte", x.loop(2, 1), 7);
        check.due("done", x.told(0, 1), 1);
        check.due("none is left", x.loop(2, 1), 0);
    }

    private static void thereAndBack(Check check) {
        check.sentence("then all that is in the out row of line 4 on that line ..: how many came "
                + "on that line");
        FederationWire x = Talk.asked(0, false, 3, 4);
        Talk.facts(x, 4, 9);
        check.due("first rows", x.loop(0, 300), 23);
        check.due("the MORE stays for the next loop", x.line(0, 1), 7);
        check.due("other rows", x.loop(0, 300), 9);
        check.due("told", Talk.told(x, 0), "0 1 0 9 9 1 0 2");
        check.due("nothing is left", x.line(0, 1) + x.line(4, 1), 0);
        check.due("loop", x.loop(0, 300), 0);
        FederationWire y = new FederationWire();
        y.up(3);
        Talk.askFor(y, 3, 1);
        Talk.askFor(y, 3, 2);
        y.fact(2, 1);
        check.due("one frame and a part of another", y.loop(3, 10), 7);
        check.due("the first is done", y.told(0, 1) * 10 + y.told(1, 1), 10);
        check.due("the rest of the other", y.loop(3, 99), 9);
        check.due("both are done", y.told(0, 1) * 10 + y.told(1, 1), 11);
    }

    /** The line that is looped does not end by bytes that are wrong on line 4. */
    private static void wrongBytesOnTheServingLine(Check check) {
        check.sentence("come, one by one, on line 4 (some of them being wrong there)");
        FederationWire x = Talk.asked(0, false, 3);
        x.out(0);
        check.due("six wrong bytes", x.loop(0, 99), 0);
        check.due("line 0", x.line(0, 0) * 10 + x.line(0, 1), 10);
        check.due("no frame is open", x.line(4, 2), 0);
        check.due("the request waits", x.told(0, 1), 0);
        x.tick(10);
        x.octet(4, (byte) 126);
        check.due("126 126: the whole frame is wrong", x.loop(0, 99), 0);
        check.due("no frame is open", x.line(4, 2), 0);
        x.tick(10);
        check.due("a right one", x.loop(0, 99), 7);
        check.due("done", x.told(0, 1), 1);
    }

    private static void allThatIsThere(Check check) {
        check.sentence("then all that is in the out row of line 4");
        FederationWire x = Talk.asked(1, false, 3);
        Talk.say(x, 4, Talk.ASK, 77, 0, 1);
        Talk.say(x, 4, Talk.MORE, 78, 0, 1);
        check.due("two answers to others", x.loop(1, 0), 13);
        check.due("they are dropped", x.count(4), 2);
        check.due("the own ASK stays", x.line(1, 1), 7);
        check.due("its answer", x.loop(1, 7), 7);
        check.due("done", x.told(0, 1), 1);
        FederationWire y = new FederationWire();
        y.up(0);
        for (int i = 0; i < 50; i++) {
            Talk.say(y, 4, Talk.MORE, 9, i, 0);
        }
        check.due("300 bytes", y.loop(0, 0), 300);
        check.due("dropped", y.count(4), 50);
        check.due("none is left", y.line(4, 1), 0);
    }

    private static void asLongAsThatIsUp(Check check) {
        check.sentence("on that line (as long as that is up ..): how many came on that line");
        FederationWire x = Talk.asked(1, false, 3);
        x.fact(3, 30);
        Talk.feed(x, 1, 126, 2);
        check.due("126 as number, 2 as length, 0 as step, 4 is above 1", x.loop(1, 7), 4);
        check.due("line 1 is down", x.line(1, 0), 0);
        check.due("no frame is open on line 1", x.line(1, 2), 0);
        check.due("it waits", x.told(0, 1), 0);
        check.due("nothing was dropped", x.count(4), 0);
        FederationWire y = Talk.asked(1, false, 3);
        y.octet(1, (byte) 126);
        check.due("126 as kind", y.loop(1, 7), 1);
        check.due("line 1 is down", y.line(1, 0), 0);
    }

    private static void whatIsLeftGoes(Check check) {
        check.sentence("what is left goes");
        FederationWire x = Talk.asked(1, false, 3);
        x.fact(3, 30);
        Talk.feed(x, 1, 126, 2);
        x.loop(1, 7);
        check.due("out row of line 4", x.line(4, 1), 0);
        check.due("out(4)", x.out(4), -2);
        check.due("up", x.up(1), 1);
        check.due("the repeat's answer alone", x.loop(1, 99), 9);
        check.due("repeats", x.count(6), 1);
        check.due("done", x.told(0, 1), 1);
        check.due("nothing is lost", x.count(5), 0);
    }

    /** The sum of a CAN'T alone is left in line 4's out row: it is no 126. */
    private static void lastByteIsWrong(Check check) {
        check.sentence("how many came on that line (the last one being wrong)");
        FederationWire x = Talk.asked(1, false, 3);
        Talk.say(x, 4, Talk.MORE, 9, 9, 0);
        Talk.take(x, 4, 5);
        check.due("one byte, which is wrong", x.loop(1, 0), 1);
        check.due("line 1 is down", x.line(1, 0), 0);
        check.due("the own ASK is gone with it", x.line(1, 1), 0);
        check.due("not up", x.loop(1, 0), -2);
    }

    private static void lostAnswers(Check check) {
        check.sentence("come, one by one, on line 4 (answers that do not fit are lost)");
        FederationWire x = new FederationWire();
        x.up(0);
        Talk.facts(x, 1, 8);
        for (int i = 0; i < 13; i++) {
            Talk.say(x, 4, Talk.ASK, 77, 0, 1);
        }
        Talk.askFor(x, 0, 1);
        check.due("299 bytes of others", x.loop(0, 7), 299);
        check.due("the own answer is lost", x.count(5), 1);
        check.due("the request waits", x.told(0, 1), 0);
        x.tick(10);
        check.due("the repeat", x.loop(0, 7), 23);
        check.due("done", x.told(0, 1), 1);
    }

    private static void noSuchLine(Check check) {
        check.sentence("BAD: no such line");
        FederationWire x = new FederationWire();
        for (int line : new int[] {-1, 4, 5, Integer.MAX_VALUE, Integer.MIN_VALUE}) {
            check.due("loop(" + line + ", 0)", x.loop(line, 0), -1);
            check.due("loop(" + line + ", -1)", x.loop(line, -1), -1);
        }
        for (int line = 0; line < 4; line++) {
            x.up(line);
            check.due("loop(" + line + ", 0)", x.loop(line, 0), 0);
        }
    }

    private static void belowZero(Check check) {
        check.sentence("BAD: .. or n is below 0");
        FederationWire x = Talk.asked(0, false, 1);
        Talk.say(x, 4, Talk.ASK, 77, 0, 1);
        check.due("loop(0, -1)", x.loop(0, -1), -1);
        check.due("loop(0, MIN)", x.loop(0, Integer.MIN_VALUE), -1);
        check.due("nothing came", x.line(0, 1) + x.line(4, 1), 14);
        check.due("loop(1, -1), which is not up", x.loop(1, -1), -1);
        check.due("loop(0, 0)", x.loop(0, 0), 7);
    }

    private static void notUp(Check check) {
        check.sentence("NO: it is not up");
        FederationWire x = new FederationWire();
        Talk.say(x, 4, Talk.ASK, 77, 0, 1);
        for (int line = 0; line < 4; line++) {
            check.due("loop(" + line + ", 0)", x.loop(line, 0), -2);
            check.due("loop(" + line + ", 9)", x.loop(line, 9), -2);
        }
        check.due("line 4's out row stays", x.line(4, 1), 7);
        x.up(3);
        check.due("up", x.loop(3, 9), 7);
        x.down(3);
        check.due("down", x.loop(3, 9), -2);
    }
}
