/** Terms, ON THE CLOCK: patience, repeats, failures, and lines that come up. */
public final class TermsClockTest {
    public static void main(String[] args) {
        Check check = new Check("Terms, on the clock (promises 2, 4, 10)");
        patience(check);
        orMore(check);
        sentOrLost(check);
        repeatedOftenEnough(check);
        moreThanRetries(check);
        patienceForEachRepeat(check);
        eachSecond(check);
        byTheirNumbers(check);
        thoseThatWait(check);
        withItsStep(check);
        newFramesBeginAnew(check);
        lineComesUp(check);
        lineComesUpByNumbers(check);
        countsAsSentForTheFirstTime(check);
        check.end();
    }

    private static void patience(Check check) {
        check.sentence("when its latest frame was sent .. PATIENCE seconds ago or more .. the frame "
                + "is sent again");
        for (int patience : new int[] {1, 2, 10, 99, 100}) {
            FederationWire x = Talk.asked(0, false, 5);
            x.setting(1, patience);
            String frame = Talk.text(Talk.frame(1, 0, 0, 5));
            check.due("the first time", Talk.drain(x, 0), frame);
            x.tick(0);
            check.due("after 0 seconds", Talk.drain(x, 0), "");
            x.tick(patience - 1);
            check.due("a second before " + patience, Talk.drain(x, 0), "");
            check.due("repeated", x.told(0, 6), 0);
            x.tick(1);
            check.due("after " + patience, Talk.drain(x, 0), frame);
            check.due("repeated", x.told(0, 6), 1);
        }
    }

    private static void orMore(Check check) {
        check.sentence("PATIENCE seconds ago or more");
        for (int patience = 7; patience <= 9; patience++) {
            FederationWire x = Talk.asked(0, false, 5);
            x.tick(7);
            x.setting(1, patience);
            check.due("no second went by", x.told(0, 6), 0);
            x.tick(0);
            check.due("no second went by", x.told(0, 6), 0);
            x.tick(1);
            check.due("8 seconds ago, PATIENCE " + patience, x.told(0, 6), patience <= 8 ? 1 : 0);
        }
    }

    private static void sentOrLost(Check check) {
        check.sentence("when its latest frame was sent (or lost) PATIENCE seconds ago");
        FederationWire x = new FederationWire();
        x.tick(3);
        Talk.askFor(x, 0, 1);
        check.due("lost", x.count(5), 1);
        x.tick(9);
        check.due("9 seconds ago", x.told(0, 6), 0);
        x.tick(1);
        check.due("10 seconds ago", x.told(0, 6), 1);
        check.due("the repeat is lost, too", x.count(5), 2);
        x.tick(9);
        check.due("9 seconds ago", x.told(0, 6), 1);
        x.tick(1);
        check.due("10 seconds ago", x.told(0, 6), 2);
        check.due("not yet", x.tick(9), 0);
        check.due("it fails", x.tick(1), 1);
        check.due("told", Talk.told(x, 0), "0 2 1 0 0 0 2 1");
    }

    private static void repeatedOftenEnough(Check check) {
        check.sentence("it FAILS (1) if that was repeated RETRIES times already, else the frame is "
                + "sent again");
        for (int retries = 0; retries <= 5; retries++) {
            FederationWire x = Talk.asked(0, false, 5);
            x.setting(2, retries);
            x.setting(1, 3);
            check.due("a second before, RETRIES " + retries, x.tick(3 * retries + 2), 0);
            check.due("told", Talk.told(x, 0), "0 0 0 0 0 0 " + retries + " 1");
            check.due("frames", x.line(0, 1), 7 * (retries + 1));
            check.due("it fails", x.tick(1), 1);
            check.due("told", Talk.told(x, 0), "0 2 1 0 0 0 " + retries + " 1");
            check.due("it sends nothing then", x.line(0, 1), 7 * (retries + 1));
            check.due("it fails but once", x.tick(1000), 0);
        }
    }

    private static void moreThanRetries(Check check) {
        check.sentence("it FAILS (1) if that was repeated RETRIES times already: RETRIES less than "
                + "that, or more");
        for (int retries = 0; retries <= 3; retries++) {
            FederationWire x = Talk.asked(0, false, 5);
            x.tick(20);
            check.due("repeated", x.told(0, 6), 2);
            x.setting(2, retries);
            check.due("a second before", x.tick(9), 0);
            check.due("RETRIES " + retries, x.tick(1), retries <= 2 ? 1 : 0);
            check.due("repeated", x.told(0, 6), retries <= 2 ? 2 : 3);
        }
    }

    private static void patienceForEachRepeat(Check check) {
        check.sentence("when its latest frame was sent .. PATIENCE seconds ago (after a repeat)");
        FederationWire x = Talk.asked(0, false, 5);
        x.tick(14);
        check.due("once", x.told(0, 6), 1);
        x.tick(5);
        check.due("9 seconds after that", x.told(0, 6), 1);
        x.tick(1);
        check.due("10 seconds after that", x.told(0, 6), 2);
        check.due("9 seconds after that", x.tick(9), 0);
        check.due("10 seconds after that", x.tick(1), 1);
    }

    private static void eachSecond(Check check) {
        check.sentence("in each second");
        FederationWire x = Talk.asked(0, false, 5);
        FederationWire y = Talk.asked(0, false, 5);
        for (FederationWire z : new FederationWire[] {x, y}) {
            z.setting(1, 7);
            z.setting(2, 5);
        }
        x.tick(41);
        for (int i = 0; i < 41; i++) {
            y.tick(1);
        }
        check.due("41 seconds in one call", Talk.told(x, 0), "0 0 0 0 0 0 5 1");
        check.due("41 calls with one", Talk.told(y, 0), "0 0 0 0 0 0 5 1");
        check.due("out row", x.line(0, 1), 42);
        check.due("out row", y.line(0, 1), 42);
        check.due("one more", x.tick(1), 1);
        check.due("one more", y.tick(1), 1);
    }

    private static void byTheirNumbers(Check check) {
        check.sentence("requests that wait, by their numbers");
        FederationWire x = Talk.wide(0);
        Talk.askFor(x, 0, 1);
        Talk.askFor(x, 0, 2);
        Talk.askFor(x, 0, 3);
        Talk.drain(x, 0);
        x.tick(10);
        check.due("out row", Talk.drain(x, 0), Talk.text(Talk.frame(1, 0, 0, 1),
                Talk.frame(1, 1, 0, 1, 2), Talk.frame(1, 2, 0, 1, 2, 3)));
        FederationWire y = Talk.wide(0);
        Talk.askForEight(y, 0, 21);
        check.due("294 bytes", y.line(0, 1), 294);
        Talk.take(y, 0, 21);
        y.tick(10);
        check.due("room for one: 273 and 14", y.line(0, 1), 287);
        check.due("20 are lost", y.count(5), 20);
        Talk.take(y, 0, 273);
        check.due("the first one's went out", Talk.drain(y, 0),
                Talk.text(Talk.frame(1, 0, 0, 1, 2, 3, 4, 5, 6, 7, 8)));
    }

    private static void thoseThatWait(Check check) {
        check.sentence("requests that wait");
        FederationWire x = new FederationWire();
        x.up(0);
        x.ask(0, false);
        Talk.askFor(x, 0, 1);
        Talk.askFor(x, 0, 1);
        Talk.askFor(x, 0, 1);
        Talk.say(x, 0, Talk.ROWS, 1, 0, 0);
        Talk.say(x, 0, Talk.CANT, 2, 0);
        Talk.drain(x, 0);
        x.tick(10);
        check.due("one waits", Talk.drain(x, 0), Talk.text(Talk.frame(1, 3, 0, 1)));
        check.due("one fails", x.tick(1000), 1);
        check.due("without keys", Talk.told(x, 0), "0 1 0 0 0 -1 0 0");
        check.due("done", Talk.told(x, 1), "0 1 0 0 0 0 0 1");
        check.due("failed before", Talk.told(x, 2), "0 2 3 0 0 0 0 1");
        check.due("failed on the clock", Talk.told(x, 3), "0 2 1 0 0 0 2 1");
    }

    private static void withItsStep(Check check) {
        check.sentence("the frame is sent again, with its step");
        FederationWire x = Talk.asked(0, false, 5);
        Talk.say(x, 0, Talk.ROWS, 0, 0, 1, 5, 1);
        Talk.drain(x, 0);
        x.tick(10);
        check.due("MORE again", Talk.drain(x, 0), Talk.text(Talk.frame(3, 0, 1, 1)));
        x.tick(10);
        check.due("MORE again", Talk.drain(x, 0), Talk.text(Talk.frame(3, 0, 1, 1)));
        check.due("latest step", x.told(0, 5), 1);
        check.due("its answer", Talk.say(x, 0, Talk.ROWS, 0, 1, 0), 2);
        check.due("a second answer", Talk.say(x, 0, Talk.ROWS, 0, 1, 0), 12);
    }

    private static void newFramesBeginAnew(Check check) {
        check.sentence("if that [its latest frame] was repeated RETRIES times already");
        FederationWire x = new FederationWire();
        x.up(0);
        x.setting(0, 1);
        Talk.askFor(x, 0, 2);
        x.tick(25);
        check.due("the ASK was repeated", x.told(0, 6), 2);
        Talk.say(x, 0, Talk.ROWS, 0, 0, 1);
        check.due("a MORE was not", x.told(0, 6), 0);
        x.tick(9);
        check.due("9 seconds after it", x.told(0, 6), 0);
        x.tick(1);
        check.due("10 seconds after it", x.told(0, 6), 1);
        Talk.say(x, 0, Talk.ROWS, 0, 1, 0);
        check.due("the next ASK was not", x.told(0, 6), 0);
        check.due("it has its own repeats", x.tick(29), 0);
        check.due("repeated", x.told(0, 6), 2);
        check.due("it fails", x.tick(1), 1);
    }

    private static void lineComesUp(Check check) {
        check.sentence("When its line comes up its latest frame is sent again at once");
        FederationWire x = new FederationWire();
        Talk.askFor(x, 1, 1);
        check.due("another line", x.up(0), 0);
        check.due("its line", x.up(1), 1);
        check.due("ASK", Talk.drain(x, 1), Talk.text(Talk.frame(1, 0, 0, 1)));
        Talk.say(x, 1, Talk.ROWS, 0, 0, 1, 1, 1);
        x.octet(1, (byte) 0);
        check.due("up after a wrong byte", x.up(1), 1);
        check.due("MORE", Talk.drain(x, 1), Talk.text(Talk.frame(3, 0, 1, 1)));
        check.due("it is up", x.up(1), -2);
        check.due("nothing is sent", x.line(1, 1), 0);
        Talk.say(x, 1, Talk.ROWS, 0, 1, 0);
        x.down(1);
        check.due("it is done", x.up(1), 0);
        check.due("nothing is sent", x.line(1, 1), 0);
    }

    private static void lineComesUpByNumbers(Check check) {
        check.sentence("(of several requests by their numbers)");
        FederationWire x = new FederationWire();
        Talk.askFor(x, 1, 1);
        Talk.askFor(x, 0, 2);
        Talk.askFor(x, 1, 3);
        check.due("up", x.up(1), 2);
        check.due("out row", Talk.drain(x, 1),
                Talk.text(Talk.frame(1, 0, 0, 1), Talk.frame(1, 2, 0, 1, 2, 3)));
    }

    private static void countsAsSentForTheFirstTime(Check check) {
        check.sentence("and counts as sent for the first time");
        FederationWire x = new FederationWire();
        Talk.askFor(x, 0, 1);
        x.tick(29);
        check.due("repeated", x.told(0, 6), 2);
        check.due("up", x.up(0), 1);
        check.due("repeated", x.told(0, 6), 0);
        check.due("tick", x.tick(9), 0);
        check.due("9 seconds after that", x.told(0, 6), 0);
        check.due("tick", x.tick(1), 0);
        check.due("10 seconds after that", x.told(0, 6), 1);
        check.due("29 seconds after that", x.tick(19), 0);
        check.due("30 seconds after that", x.tick(1), 1);
        FederationWire y = Talk.wide(0);
        Talk.askForEight(y, 0, 22);
        y.tick(15);
        y.down(0);
        check.due("21 fit", y.up(0), 21);
        check.due("one that is lost, too", y.told(21, 6), 0);
        y.tick(9);
        check.due("9 seconds after that", y.told(21, 6), 0);
        y.tick(1);
        check.due("10 seconds after that", y.told(21, 6), 1);
    }
}
