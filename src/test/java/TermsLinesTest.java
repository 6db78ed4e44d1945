/** Terms, LINES: which there are, and how much their out rows hold. */
public final class TermsLinesTest {
    public static void main(String[] args) {
        Check check = new Check("Terms, lines (promises 2, 3, 6, 8, 16, 17)");
        fiveLines(check);
        servingLineIsUpAlways(check);
        housesAreNotUpAtFirst(check);
        outRowOfAHouse(check);
        outRowOfTheServingEnd(check);
        bytesThatWentMakeRoom(check);
        everySendingMayBeLost(check);
        lostOnALineThatIsNotUp(check);
        check.end();
    }

    private static void fiveLines(Check check) {
        check.sentence("LINES 0 .. 3 lead to houses, line 4 is that of our SERVING END");
        FederationWire x = new FederationWire();
        for (int line = 0; line < 4; line++) {
            check.due("ask(" + line + ")", x.ask(line, false), line);
            check.due("up(" + line + ")", x.up(line), 0);
            check.due("loop(" + line + ", 0)", x.loop(line, 0), 0);
            check.due("CAN'T is dropped on " + line, Talk.say(x, line, Talk.CANT, 0, 0), 14);
            check.due("an ASK is dropped on " + line, Talk.say(x, line, Talk.ASK, 0, 0, 0), 11);
        }
        check.due("an ASK is served on 4", Talk.say(x, 4, Talk.ASK, 0, 0, 0), 1);
        check.due("its answer stands on 4", x.line(4, 1), 7);
        check.due("ask(4)", x.ask(4, false), -1);
        check.due("up(4)", x.up(4), -1);
        check.due("loop(4, 0)", x.loop(4, 0), -1);
        for (int line : new int[] {-1, 5}) {
            check.due("line(" + line + ", 0)", x.line(line, 0), -1);
            check.due("octet(" + line + ")", x.octet(line, (byte) 126), -1);
            check.due("out(" + line + ")", x.out(line), -1);
        }
    }

    private static void servingLineIsUpAlways(Check check) {
        check.sentence("line 4 is that of our SERVING END (up always)");
        FederationWire x = new FederationWire();
        check.due("at first", x.line(4, 0), 1);
        x.octet(4, (byte) 0);
        check.due("after a wrong byte", x.line(4, 0), 1);
        x.down(4);
        check.due("after down(4)", x.line(4, 0), 1);
        x.up(3);
        x.down(3);
        check.due("after down(3)", x.line(4, 0), 1);
        check.due("line 3", x.line(3, 0), 0);
    }

    private static void housesAreNotUpAtFirst(Check check) {
        check.sentence("A line is UP or not (0 .. 3 at first not)");
        FederationWire x = new FederationWire();
        for (int line = 0; line < 4; line++) {
            check.due("line(" + line + ", 0)", x.line(line, 0), 0);
            check.due("octet(" + line + ")", x.octet(line, (byte) 126), -2);
            x.up(line);
            check.due("line(" + line + ", 0)", x.line(line, 0), 1);
            check.due("octet(" + line + ")", x.octet(line, (byte) 126), 0);
        }
    }

    private static void outRowOfAHouse(Check check) {
        check.sentence("OUT row, at most 300 bytes; a frame that does not fit there as a whole .. "
                + "is lost");
        FederationWire x = Talk.wide(2);
        Talk.askForEight(x, 2, 20);
        Talk.askFor(x, 2, 4);
        check.due("20 of 14 bytes, 1 of 10", x.line(2, 1), 290);
        check.due("none is lost", x.count(5), 0);
        Talk.askFor(x, 2, 5);
        check.due("11 bytes would make 301", x.line(2, 1), 290);
        check.due("it is lost", x.count(5), 1);
        Talk.askFor(x, 2, 4);
        check.due("10 bytes make 300", x.line(2, 1), 300);
        check.due("that is not lost", x.count(5), 1);
        Talk.askFor(x, 2, 1);
        check.due("no other fits", x.line(2, 1), 300);
        check.due("that is lost", x.count(5), 2);
        Talk.take(x, 2, 290);
        check.due("the last frame is whole", Talk.drain(x, 2),
                Talk.text(Talk.frame(Talk.ASK, 22, 0, 1, 2, 3, 4)));
    }

    private static void outRowOfTheServingEnd(Check check) {
        check.sentence("OUT row, at most 300 bytes; a frame that does not fit there as a whole .. "
                + "is lost (line 4)");
        FederationWire x = new FederationWire();
        for (int i = 0; i < 50; i++) {
            Talk.say(x, 4, Talk.MORE, 9, i, 0);
        }
        check.due("50 frames of 6 bytes", x.line(4, 1), 300);
        check.due("none is lost", x.count(5), 0);
        check.due("another MORE is served", Talk.say(x, 4, Talk.MORE, 9, 50, 0), 3);
        check.due("51 frames", x.line(4, 1), 300);
        check.due("one is lost", x.count(5), 1);
        Talk.take(x, 4, 5);
        Talk.say(x, 4, Talk.MORE, 9, 51, 0);
        check.due("295 and 6", x.line(4, 1), 295);
        check.due("one more is lost", x.count(5), 2);
        Talk.take(x, 4, 1);
        Talk.say(x, 4, Talk.MORE, 9, 52, 0);
        check.due("294 and 6", x.line(4, 1), 300);
        check.due("no other is lost", x.count(5), 2);
    }

    /** The row's place in memory may go round: what comes out is what went in. */
    private static void bytesThatWentMakeRoom(Check check) {
        check.sentence("what is sent on it stands in its OUT row");
        FederationWire x = new FederationWire();
        Talk.facts(x, 1, 8);
        String answer = Talk.rowsFrame(1, 0, 0, 1, 0, 8);
        Talk.say(x, 4, Talk.ASK, 1, 0, 1);
        for (int i = 0; i < 14; i++) {
            Talk.say(x, 4, Talk.ASK, 1, 0, 1);
            StringBuilder text = new StringBuilder();
            for (int b = 0; b < 23; b++) {
                text.append(b == 0 ? "" : " ").append(x.out(4));
            }
            check.due("answer " + i, text.toString(), answer);
        }
        check.due("the last answer", Talk.drain(x, 4), answer);
    }

    private static void everySendingMayBeLost(Check check) {
        check.sentence("a frame that does not fit there as a whole .. is lost (a repeat, a MORE, "
                + "the next ASK)");
        FederationWire x = Talk.wide(0);
        x.setting(0, 1);
        x.bind(1, 1);
        x.bind(2, 2);
        x.ask(0, false);
        x.setting(0, 8);
        Talk.askForEight(x, 0, 20);
        check.due("7 and 20 of 14 bytes", x.line(0, 1), 287);
        Talk.askFor(x, 0, 4);
        check.due("10 bytes more", x.line(0, 1), 297);
        check.due("none is lost", x.count(5), 0);
        check.due("ROWS, more", Talk.say(x, 0, Talk.ROWS, 0, 0, 1), 2);
        check.due("the MORE is lost", x.count(5), 1);
        check.due("out row", x.line(0, 1), 297);
        check.due("its step counts", x.told(0, 5), 1);
        check.due("ROWS", Talk.say(x, 0, Talk.ROWS, 0, 1, 0), 2);
        check.due("the next ASK is lost", x.count(5), 2);
        check.due("its step counts", x.told(0, 5), 2);
        x.tick(10);
        check.due("22 repeats are lost", x.count(5), 24);
        check.due("out row", x.line(0, 1), 297);
        check.due("a lost repeat counts", x.told(0, 6), 1);
        Talk.take(x, 0, 4);
        x.tick(10);
        check.due("293 and 7: one goes out", x.line(0, 1), 300);
        check.due("21 are lost", x.count(5), 45);
    }

    private static void lostOnALineThatIsNotUp(Check check) {
        check.sentence("or on a line that is not up, is lost");
        FederationWire x = new FederationWire();
        x.up(1);
        x.bind(1, 1);
        x.ask(0, false);
        check.due("an ASK", x.count(5), 1);
        check.due("out row", x.line(0, 1), 0);
        check.due("the request is there all the same", x.told(0, 1), 0);
        x.bind(1, 1);
        x.ask(1, false);
        check.due("on a line that is up", x.count(5), 1);
        check.due("out row", x.line(1, 1), 7);
        x.down(1);
        check.due("what stood in an out row was sent", x.count(5), 1);
        x.tick(9);
        check.due("no repeat yet", x.count(5), 1);
        x.tick(1);
        check.due("two repeats", x.count(5), 3);
        x.up(0);
        check.due("none by coming up", x.count(5), 3);
        x.tick(10);
        check.due("one goes out, one is lost", x.count(5), 4);
    }
}
