/** Promise 9: the out row of a line comes on the serving line, and its answers come back. */
public final class Promise09LoopTest {
    public static void main(String[] args) {
        Check check = new Check();
        wrongCalls(check);
        thereAndBack(check);
        partsOfFrames(check);
        whatIsLeftGoes(check);
        otherAnswersComeToo(check);
        check.end();
    }

    private static void wrongCalls(Check check) {
        FederationWire x = new FederationWire();
        check.due("loop(-1, 1)", x.loop(-1, 1), -1);
        check.due("loop(4, 1)", x.loop(4, 1), -1);
        check.due("loop(5, 1)", x.loop(5, 1), -1);
        check.due("loop(0, -1): bad before no", x.loop(0, -1), -1);
        check.due("loop(0, 0)", x.loop(0, 0), -2);
        x.up(0);
        check.due("loop(0, -1)", x.loop(0, -1), -1);
        check.due("loop(0, MIN)", x.loop(0, Integer.MIN_VALUE), -1);
        check.due("loop(0, 0)", x.loop(0, 0), 0);
        check.due("loop(0, MAX)", x.loop(0, Integer.MAX_VALUE), 0);
    }

    private static void thereAndBack(Check check) {
        FederationWire x = Talk.asked(0, false, 3, 4);
        Talk.facts(x, 4, 9);
        check.due("first rows", x.loop(0, 300), 23);
        check.due("the MORE stays for the next loop", x.line(0, 1), 7);
        check.due("other rows", x.loop(0, 300), 9);
        check.due("told", Talk.told(x, 0), "0 1 0 9 9 1 0 2");
        check.due("nothing is left", x.line(0, 1) + x.line(4, 1), 0);
        check.due("loop", x.loop(0, 300), 0);
    }

    private static void partsOfFrames(Check check) {
        FederationWire x = Talk.asked(2, false, 3);
        x.fact(3, 30);
        check.due("no byte", x.loop(2, 0), 0);
        check.due("out row", x.line(2, 1), 7);
        for (int i = 1; i <= 6; i++) {
            check.due("a byte", x.loop(2, 1), 0);
            check.due("left", x.line(2, 1), 7 - i);
            check.due("open", x.line(4, 2), i);
        }
        check.due("the last byte", x.loop(2, 1), 9);
        check.due("rows", Talk.rows(x, 0), "3:30");
    }

    /** An answer that runs into an open frame is wrong there: the line ends, the rest goes. */
    private static void whatIsLeftGoes(Check check) {
        FederationWire x = Talk.asked(1, false, 3);
        x.fact(3, 30);
        Talk.feed(x, 1, 126, 2);
        check.due("126 as number, 2 as length, 0, 4 is above 1", x.loop(1, 7), 4);
        check.due("line 1 is down", x.line(1, 0), 0);
        check.due("out row of line 4", x.line(4, 1), 0);
        check.due("no frame is open on line 1", x.line(1, 2), 0);
        check.due("it waits", x.told(0, 1), 0);
        check.due("up", x.up(1), 1);
        check.due("the repeat", x.loop(1, 99), 9);
        check.due("repeats", x.count(6), 1);
        check.due("done", x.told(0, 1), 1);
    }

    private static void otherAnswersComeToo(Check check) {
        FederationWire x = Talk.asked(1, false, 3);
        Talk.say(x, 4, Talk.ASK, 77, 0, 1);
        Talk.say(x, 4, Talk.MORE, 78, 0, 1);
        check.due("two answers of others", x.loop(1, 0), 13);
        check.due("they are dropped", x.count(4), 2);
        check.due("the own ask stays", x.line(1, 1), 7);
        check.due("its answer", x.loop(1, 7), 7);
        check.due("a wrong frame on line 4 is passed over", x.told(0, 1), 1);
    }
}
