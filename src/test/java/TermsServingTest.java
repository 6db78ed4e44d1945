/** Terms, THE SERVING END: its facts, what it remembers, and what it answers. */
public final class TermsServingTest {
    public static void main(String[] args) {
        Check check = new Check("Terms, the serving end (promises 7, 15, 16)");
        sixtyFacts(check);
        rowsOfAnAsk(check);
        sixtyRows(check);
        eightNumbers(check);
        longestAgo(check);
        anotherStepIsAskedAnew(check);
        aRepeatIsNoNewAsking(check);
        repeats(check);
        forgottenOnesAreNoRepeats(check);
        firstEight(check);
        rowsBehindTheFirst(check);
        noneSuch(check);
        lessRowsThanThat(check);
        stepsOfMore(check);
        stepsGoRound(check);
        withoutRepeats(check);
        answeredByRows(check);
        ofThatNumber(check);
        otherKindsAreDropped(check);
        check.end();
    }

    private static void sixtyFacts(Check check) {
        check.sentence("FACTS, a key and a value 0 .. 255 each, at most 60, in the order in which "
                + "they came");
        FederationWire x = new FederationWire();
        x.fact(0, 255);
        x.fact(255, 0);
        x.fact(0, 0);
        for (int i = 4; i <= 59; i++) {
            x.fact(7, i);
        }
        check.due("the 60th", x.fact(9, 1), 60);
        check.due("a 61st", x.fact(9, 2), -3);
        check.due("0, 255 and the 60th", Talk.answer(x, Talk.ASK, 0, 0, 0, 255, 9),
                Talk.text(Talk.frame(2, 0, 0, 0, 0, 255, 0, 0, 255, 0, 9, 1)));
    }

    private static void rowsOfAnAsk(Check check) {
        check.sentence("An ASK's rows are, for each of its keys in order, the facts with that key "
                + "in order");
        FederationWire x = new FederationWire();
        x.fact(1, 10);
        x.fact(2, 20);
        x.fact(1, 11);
        check.due("by keys, then by facts", Talk.answer(x, Talk.ASK, 5, 9, 2, 7, 1),
                Talk.text(Talk.frame(2, 5, 9, 0, 2, 20, 1, 10, 1, 11)));
        check.due("a key twice", Talk.answer(x, Talk.ASK, 5, 10, 1, 1),
                Talk.text(Talk.frame(2, 5, 10, 0, 1, 10, 1, 11, 1, 10, 1, 11)));
        check.due("none", Talk.answer(x, Talk.ASK, 5, 11, 3), Talk.text(Talk.frame(2, 5, 11, 0)));
        check.due("8 keys", Talk.answer(x, Talk.ASK, 5, 12, 3, 4, 5, 6, 7, 8, 9, 2),
                Talk.text(Talk.frame(2, 5, 12, 0, 2, 20)));
    }

    private static void sixtyRows(Check check) {
        check.sentence("the facts with that key in order (60 rows at most)");
        for (int facts = 29; facts <= 31; facts++) {
            FederationWire x = new FederationWire();
            Talk.facts(x, 6, facts);
            int rows = Math.min(60, 2 * facts);
            Talk.answer(x, Talk.ASK, 1, 0, 6, 6);
            check.due("the last row of " + rows, Talk.answer(x, Talk.MORE, 1, 1, rows - 1),
                    Talk.rowsFrame(1, 1, 0, 6, rows - 1 - facts, 1));
            check.due("none behind it", Talk.answer(x, Talk.MORE, 1, 2, rows),
                    Talk.rowsFrame(1, 2, 0, 6, 0, 0));
            check.due("less than that", Talk.answer(x, Talk.MORE, 1, 3, rows + 1),
                    Talk.text(Talk.frame(4, 1, 3)));
        }
    }

    private static boolean isRemembered(FederationWire x, int number, int step) {
        String answer = Talk.answer(x, Talk.MORE, number, step, 0);
        return !answer.equals(Talk.text(Talk.frame(4, number, step)));
    }

    private static void eightNumbers(Check check) {
        check.sentence("REMEMBERED under its number with its step (8 numbers at most; with a ninth "
                + "one that which was asked longest ago goes");
        FederationWire x = new FederationWire();
        for (int number = 1; number <= 7; number++) {
            Talk.answer(x, Talk.ASK, number, 0, 1);
            check.due("numbers", x.count(7), number);
        }
        Talk.answer(x, Talk.ASK, 255, 0, 1);
        check.due("an eighth", x.count(7), 8);
        check.due("1 is there", isRemembered(x, 1, 0) ? 1 : 0, 1);
        check.due("255 is there", isRemembered(x, 255, 0) ? 1 : 0, 1);
        Talk.answer(x, Talk.ASK, 0, 0, 1);
        check.due("a ninth", x.count(7), 8);
        check.due("1 is gone", isRemembered(x, 1, 0) ? 1 : 0, 0);
        for (int number : new int[] {2, 3, 4, 5, 6, 7, 255, 0}) {
            check.due(number + " is there", isRemembered(x, number, 0) ? 1 : 0, 1);
        }
        check.due("repeats", x.count(6), 0);
    }

    private static void longestAgo(Check check) {
        check.sentence("with a ninth one that which was asked longest ago goes");
        FederationWire x = new FederationWire();
        for (int number = 12; number > 0; number--) {
            Talk.answer(x, Talk.ASK, number, 0, 1);
            if (number <= 4) {
                int gone = number + 8;
                check.due(gone + " is gone", isRemembered(x, gone, 0) ? 1 : 0, 0);
            }
            if (number <= 5) {
                int oldest = number + 7;
                check.due(oldest + " is there", isRemembered(x, oldest, 0) ? 1 : 0, 1);
            }
        }
        check.due("numbers", x.count(7), 8);
    }

    private static void anotherStepIsAskedAnew(Check check) {
        check.sentence("a number that asks with another step is asked anew");
        FederationWire x = new FederationWire();
        x.fact(1, 10);
        for (int number = 1; number <= 8; number++) {
            Talk.answer(x, Talk.ASK, number, 0, 1);
        }
        x.fact(1, 11);
        check.due("its rows are new", Talk.answer(x, Talk.ASK, 1, 1, 1),
                Talk.text(Talk.frame(2, 1, 1, 0, 1, 10, 1, 11)));
        check.due("its keys are new", Talk.answer(x, Talk.ASK, 2, 255, 2),
                Talk.text(Talk.frame(2, 2, 255, 0)));
        check.due("no other number", x.count(7), 8);
        check.due("no repeat", x.count(6), 0);
        check.due("its step is new, too", isRemembered(x, 1, 0) ? 1 : 0, 0);
        Talk.answer(x, Talk.ASK, 9, 0, 1);
        check.due("3 is gone", isRemembered(x, 3, 0) ? 1 : 0, 0);
        check.due("1 is there", isRemembered(x, 1, 1) ? 1 : 0, 1);
        check.due("2 is there", isRemembered(x, 2, 255) ? 1 : 0, 1);
        for (int number = 10; number <= 14; number++) {
            Talk.answer(x, Talk.ASK, number, 0, 1);
        }
        check.due("8 is gone", isRemembered(x, 8, 0) ? 1 : 0, 0);
        check.due("1 is there", isRemembered(x, 1, 1) ? 1 : 0, 1);
        Talk.answer(x, Talk.ASK, 15, 0, 1);
        check.due("1 is gone", isRemembered(x, 1, 1) ? 1 : 0, 0);
        check.due("2 is there", isRemembered(x, 2, 255) ? 1 : 0, 1);
    }

    private static void aRepeatIsNoNewAsking(Check check) {
        check.sentence("a REPEAT is no new asking");
        FederationWire x = new FederationWire();
        for (int number = 1; number <= 8; number++) {
            Talk.answer(x, Talk.ASK, number, 0, 1);
        }
        Talk.answer(x, Talk.ASK, 1, 0, 1);
        check.due("a MORE is none, either", isRemembered(x, 1, 1) ? 1 : 0, 1);
        check.due("repeats", x.count(6), 1);
        Talk.answer(x, Talk.ASK, 9, 0, 1);
        check.due("1 is gone", isRemembered(x, 1, 1) ? 1 : 0, 0);
        check.due("2 is there", isRemembered(x, 2, 0) ? 1 : 0, 1);
    }

    private static void repeats(Check check) {
        check.sentence("An ASK with the number and step of one that is remembered (the step of its "
                + "ASK) is a REPEAT: its rows are as they were then, whatever its keys");
        FederationWire x = new FederationWire();
        x.fact(6, 60);
        Talk.answer(x, Talk.ASK, 1, 3, 6);
        x.fact(6, 61);
        String then = Talk.text(Talk.frame(2, 1, 3, 0, 6, 60));
        check.due("ASK", Talk.say(x, 4, Talk.ASK, 1, 3, 6), 1);
        check.due("as they were then", Talk.drain(x, 4), then);
        check.due("whatever its keys", Talk.answer(x, Talk.ASK, 1, 3, 7, 8), then);
        check.due("repeats", x.count(6), 2);
        check.due("another number", Talk.answer(x, Talk.ASK, 2, 3, 6),
                Talk.text(Talk.frame(2, 2, 3, 0, 6, 60, 6, 61)));
        check.due("repeats", x.count(6), 2);
        check.due("MORE, step 4", Talk.answer(x, Talk.MORE, 1, 4, 0),
                Talk.text(Talk.frame(2, 1, 4, 0, 6, 60)));
        check.due("after a MORE", Talk.answer(x, Talk.ASK, 1, 3, 6), then);
        check.due("repeats", x.count(6), 3);
        check.due("MORE, step 4 again", Talk.answer(x, Talk.MORE, 1, 4, 1),
                Talk.text(Talk.frame(2, 1, 4, 0)));
        check.due("a MORE is no REPEAT", x.count(6), 3);
        check.due("the step of a MORE is none", Talk.answer(x, Talk.ASK, 1, 4, 6),
                Talk.text(Talk.frame(2, 1, 4, 0, 6, 60, 6, 61)));
        check.due("repeats", x.count(6), 3);
        check.due("the step before that", Talk.answer(x, Talk.ASK, 1, 3, 7),
                Talk.text(Talk.frame(2, 1, 3, 0)));
        check.due("repeats", x.count(6), 3);
    }

    private static void forgottenOnesAreNoRepeats(Check check) {
        check.sentence("one that is remembered .. is a REPEAT (one that is gone is not)");
        FederationWire x = new FederationWire();
        x.fact(6, 60);
        Talk.answer(x, Talk.ASK, 1, 3, 6);
        x.fact(6, 61);
        for (int number = 2; number <= 8; number++) {
            Talk.answer(x, Talk.ASK, number, 0, 6);
        }
        check.due("one of eight", Talk.answer(x, Talk.ASK, 1, 3, 6),
                Talk.text(Talk.frame(2, 1, 3, 0, 6, 60)));
        check.due("repeats", x.count(6), 1);
        Talk.answer(x, Talk.ASK, 9, 0, 6);
        check.due("gone", Talk.answer(x, Talk.ASK, 1, 3, 6),
                Talk.text(Talk.frame(2, 1, 3, 0, 6, 60, 6, 61)));
        check.due("repeats", x.count(6), 1);
        check.due("2 went for it", isRemembered(x, 2, 0) ? 1 : 0, 0);
    }

    private static void firstEight(Check check) {
        check.sentence("It answers with ROWS of its step: the first 8 rows, and whether there are "
                + "more");
        FederationWire x = new FederationWire();
        for (int rows = 0; rows <= 17; rows++) {
            check.due(rows + " rows", Talk.answer(x, Talk.ASK, 1, rows, 6),
                    Talk.rowsFrame(1, rows, rows > 8 ? 1 : 0, 6, 0, Math.min(rows, 8)));
            x.fact(6, rows);
        }
    }

    private static void rowsBehindTheFirst(Check check) {
        check.sentence("MORE answers with ROWS of its step: the 8 rows (or as many as are left) "
                + "behind the first so many of what its number is remembered for");
        FederationWire x = new FederationWire();
        Talk.facts(x, 6, 17);
        Talk.answer(x, Talk.ASK, 1, 0, 6);
        int step = 0;
        for (int first : new int[] {0, 1, 7, 8, 9, 10, 15, 16, 17, 0}) {
            step++;
            int left = 17 - first;
            check.due("behind " + first, Talk.answer(x, Talk.MORE, 1, step, first),
                    Talk.rowsFrame(1, step, left > 8 ? 1 : 0, 6, first, Math.min(left, 8)));
        }
        x.fact(6, 99);
        check.due("as they were then", Talk.answer(x, Talk.MORE, 1, step, 17),
                Talk.rowsFrame(1, step, 0, 6, 17, 0));
    }

    private static void noneSuch(Check check) {
        check.sentence("CAN'T, of its step, when there is none such");
        FederationWire x = new FederationWire();
        check.due("MORE", Talk.say(x, 4, Talk.MORE, 7, 200, 0), 3);
        check.due("no number", Talk.drain(x, 4), Talk.text(Talk.frame(4, 7, 200)));
        check.due("it is not remembered", x.count(7), 0);
        Talk.answer(x, Talk.ASK, 7, 200, 1);
        check.due("number 6", Talk.answer(x, Talk.MORE, 6, 200, 0),
                Talk.text(Talk.frame(4, 6, 200)));
        check.due("number 7", Talk.answer(x, Talk.MORE, 7, 200, 0),
                Talk.text(Talk.frame(2, 7, 200, 0)));
        check.due("number 8", Talk.answer(x, Talk.MORE, 8, 200, 0),
                Talk.text(Talk.frame(4, 8, 200)));
    }

    private static void lessRowsThanThat(Check check) {
        check.sentence("CAN'T .. or less rows than that");
        for (int rows : new int[] {0, 1, 8, 60}) {
            FederationWire x = new FederationWire();
            Talk.facts(x, 6, rows);
            Talk.answer(x, Talk.ASK, 1, 0, 6);
            check.due("just so many: " + rows, Talk.answer(x, Talk.MORE, 1, 0, rows),
                    Talk.rowsFrame(1, 0, 0, 6, 0, 0));
            check.due("one less: " + rows, Talk.answer(x, Talk.MORE, 1, 0, rows + 1),
                    Talk.text(Talk.frame(4, 1, 0)));
            check.due("many less: " + rows, Talk.answer(x, Talk.MORE, 1, 0, 255),
                    Talk.text(Talk.frame(4, 1, 0)));
        }
    }

    private static void step(Check check, FederationWire x, int step, boolean can) {
        check.due("step " + step, Talk.answer(x, Talk.MORE, 1, step, 0), can
                ? Talk.text(Talk.frame(2, 1, step, 0, 6, 60)) : Talk.text(Talk.frame(4, 1, step)));
    }

    private static void stepsOfMore(Check check) {
        check.sentence("or its step is neither that of the latest ASK or MORE of that number .., "
                + "nor the next one");
        FederationWire x = new FederationWire();
        x.fact(6, 60);
        Talk.answer(x, Talk.ASK, 1, 100, 6);
        step(check, x, 99, false);
        step(check, x, 102, false);
        step(check, x, 100 ^ 128, false);
        step(check, x, 100, true);
        step(check, x, 101, true);
        step(check, x, 100, false);
        step(check, x, 103, false);
        step(check, x, 101, true);
        step(check, x, 102, true);
        step(check, x, 103, true);
        Talk.answer(x, Talk.ASK, 1, 50, 6);
        step(check, x, 103, false);
        step(check, x, 104, false);
        step(check, x, 49, false);
        step(check, x, 52, false);
        step(check, x, 51, true);
    }

    private static void stepsGoRound(Check check) {
        check.sentence("nor the next one (modulo 256)");
        FederationWire x = new FederationWire();
        x.fact(6, 60);
        Talk.answer(x, Talk.ASK, 1, 255, 6);
        step(check, x, 254, false);
        step(check, x, 1, false);
        step(check, x, 255, true);
        step(check, x, 0, true);
        step(check, x, 255, false);
        step(check, x, 2, false);
        step(check, x, 1, true);
        Talk.answer(x, Talk.ASK, 1, 0, 6);
        step(check, x, 255, false);
        step(check, x, 0, true);
        Talk.answer(x, Talk.ASK, 1, 254, 6);
        step(check, x, 0, false);
        step(check, x, 255, true);
        step(check, x, 0, true);
    }

    private static void withoutRepeats(Check check) {
        check.sentence("that of the latest ASK or MORE of that number (without REPEATS)");
        FederationWire x = new FederationWire();
        x.fact(6, 60);
        Talk.answer(x, Talk.ASK, 1, 10, 6);
        step(check, x, 11, true);
        step(check, x, 12, true);
        Talk.answer(x, Talk.ASK, 1, 10, 6);
        check.due("a repeat", x.count(6), 1);
        step(check, x, 10, false);
        step(check, x, 11, false);
        step(check, x, 14, false);
        step(check, x, 12, true);
        step(check, x, 13, true);
    }

    private static void answeredByRows(Check check) {
        check.sentence("that was answered by ROWS");
        FederationWire x = new FederationWire();
        x.fact(6, 60);
        Talk.answer(x, Talk.ASK, 1, 10, 6);
        check.due("less rows than that", Talk.answer(x, Talk.MORE, 1, 11, 2),
                Talk.text(Talk.frame(4, 1, 11)));
        step(check, x, 12, false);
        step(check, x, 10, true);
        check.due("less rows than that", Talk.answer(x, Talk.MORE, 1, 11, 2),
                Talk.text(Talk.frame(4, 1, 11)));
        step(check, x, 11, true);
        step(check, x, 13, false);
        step(check, x, 14, false);
        step(check, x, 12, true);
    }

    private static void ofThatNumber(Check check) {
        check.sentence("the latest ASK or MORE of that number");
        FederationWire x = new FederationWire();
        x.fact(6, 60);
        Talk.answer(x, Talk.ASK, 1, 10, 6);
        Talk.answer(x, Talk.ASK, 2, 20, 6);
        step(check, x, 20, false);
        step(check, x, 11, true);
        check.due("number 2", Talk.answer(x, Talk.MORE, 2, 11, 0),
                Talk.text(Talk.frame(4, 2, 11)));
        check.due("number 2", Talk.answer(x, Talk.MORE, 2, 21, 0),
                Talk.text(Talk.frame(2, 2, 21, 0, 6, 60)));
        step(check, x, 12, true);
    }

    private static void otherKindsAreDropped(Check check) {
        check.sentence("Kinds 2 and 4 are dropped");
        FederationWire x = Talk.asked(0, false, 5);
        check.due("ASK", Talk.say(x, 4, Talk.ASK, 0, 0, 5), 1);
        check.due("ROWS", Talk.say(x, 4, Talk.ROWS, 0, 0, 0), 12);
        check.due("MORE", Talk.say(x, 4, Talk.MORE, 0, 0, 0), 3);
        check.due("CAN'T", Talk.say(x, 4, Talk.CANT, 0, 0), 14);
        check.due("dropped", x.count(4), 2);
        check.due("two answers", x.line(4, 1), 14);
        check.due("the request waits", x.told(0, 1), 0);
        check.due("numbers", x.count(7), 1);
    }
}
