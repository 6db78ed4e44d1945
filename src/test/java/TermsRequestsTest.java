/** Terms, REQUESTS: how many, their keys in parts, their steps, and what they wait for. */
public final class TermsRequestsTest {
    public static void main(String[] args) {
        Check check = new Check("Terms, requests (promises 5, 6, 7, 11, 12)");
        atMostTwentyFour(check);
        atMostTwentyBindings(check);
        differentKeys(check);
        parts(check);
        whenTheOneBeforeWasAnswered(check);
        steps(check);
        numberOfTheFrames(check);
        waitsForItsStep(check);
        waitsForItsNumber(check);
        waitsOnItsLine(check);
        otherKindsAreDropped(check);
        sixtyRows(check);
        sixtyRowsWithinAFrame(check);
        sixtyRowsOfAllParts(check);
        whateverTheirKeys(check);
        moreCountsThisPart(check);
        moreCountsAllOfThem(check);
        moreOrNextPartOrDone(check);
        failsByCant(check);
        failsKeepsItsRows(check);
        silentOnes(check);
        check.end();
    }

    private static void atMostTwentyFour(Check check) {
        check.sentence("REQUESTS, numbered from 0, at most 24, go to a house");
        FederationWire x = new FederationWire();
        for (int number = 0; number < 24; number++) {
            x.bind(number, number);
            check.due("ask", x.ask(number % 4, false), number);
            check.due("its house", x.told(number, 0), number % 4);
        }
        x.bind(1, 1);
        check.due("a 25th", x.ask(0, false), -3);
        check.due("there are", x.count(0), 24);
        check.due("told(23, 7)", x.told(23, 7), 1);
        check.due("told(24, 7)", x.told(24, 7), -1);
        x.up(3);
        Talk.take(x, 3, 5 * 7);
        check.due("the frame of the last", Talk.drain(x, 3), Talk.text(Talk.frame(1, 23, 0, 23)));
        check.due("it waits, too", Talk.say(x, 3, Talk.ROWS, 23, 0, 0, 23, 1), 2);
        check.due("a 25th does not", Talk.say(x, 3, Talk.ROWS, 24, 0, 0), 12);
    }

    private static void atMostTwentyBindings(Check check) {
        check.sentence("Each has BINDINGS, at most 20: a key 0 .. 255 and a TAG");
        for (int many = 19; many <= 21; many++) {
            FederationWire x = new FederationWire();
            x.setting(2, 0);
            for (int i = 1; i <= many; i++) {
                check.due("bind " + i, x.bind(255 - i, -i), i <= 20 ? i : -3);
            }
            x.ask(0, true);
            check.due("keys", x.told(0, 7), Math.min(many, 20));
            x.tick(10);
            check.due("joined", x.told(0, 4), Math.min(many, 20));
            check.due("tag 18", x.joined(0, 18, 0), -19);
            check.due("tag 19", x.joined(0, 19, 0), many < 20 ? -2 : -20);
            check.due("tag 20", x.joined(0, 20, 0), -2);
        }
        FederationWire x = Talk.asked(1, false, 0, 255);
        check.due("keys 0 and 255", Talk.drain(x, 1), Talk.text(Talk.frame(1, 0, 0, 0, 255)));
    }

    private static void differentKeys(Check check) {
        check.sentence("its KEYS are the different ones in the order in which they came first");
        FederationWire x = Talk.wide(0);
        Talk.bindAll(x, 9, 0, 9, 255, 0, 1, 255, 9);
        x.ask(0, false);
        check.due("keys", x.told(0, 7), 4);
        check.due("ASK", Talk.drain(x, 0), Talk.text(Talk.frame(1, 0, 0, 9, 0, 255, 1)));
        for (int i = 0; i < 20; i++) {
            x.bind(7, i);
        }
        x.ask(0, false);
        check.due("20 times the same: keys", x.told(1, 7), 1);
        check.due("ASK", Talk.drain(x, 0), Talk.text(Talk.frame(1, 1, 0, 7)));
        Talk.bindAll(x, Talk.keysUpTo(1, 19));
        x.bind(1, 5);
        x.ask(0, false);
        check.due("the last is the first again: keys", x.told(2, 7), 19);
    }

    private static void parts(Check check) {
        check.sentence("They are asked for in PARTS of BULK keys (the last one may be less)");
        for (int bulk = 1; bulk <= 8; bulk++) {
            int[] sizes = {1, bulk - 1, bulk, bulk + 1, 2 * bulk - 1, 2 * bulk, 2 * bulk + 1, 20};
            for (int keys : sizes) {
                if (keys >= 1) {
                    partsOf(check, bulk, keys);
                }
            }
        }
    }

    private static void partsOf(Check check, int bulk, int keys) {
        String what = keys + " keys in parts of " + bulk;
        FederationWire x = new FederationWire();
        x.setting(0, bulk);
        x.up(0);
        Talk.askFor(x, 0, keys);
        int step = 0;
        for (int first = 1; first <= keys; first += bulk) {
            int last = Math.min(first + bulk - 1, keys);
            check.due(what + ": waits", x.told(0, 1), 0);
            check.due(what + ": part " + step, Talk.drain(x, 0), Talk.text(
                    Talk.frame(1, 0, Talk.behindStep(step, Talk.keysUpTo(first, last)))));
            Talk.say(x, 0, Talk.ROWS, 0, step, 0);
            step++;
        }
        check.due(what + ": done", x.told(0, 1), 1);
        check.due(what + ": latest step", x.told(0, 5), step - 1);
        check.due(what + ": no other frame", x.line(0, 1), 0);
    }

    private static void whenTheOneBeforeWasAnswered(Check check) {
        check.sentence("one ASK for each part, when the one before was answered wholly");
        FederationWire x = new FederationWire();
        x.setting(0, 1);
        x.up(0);
        Talk.askFor(x, 0, 2);
        check.due("one ASK alone", Talk.drain(x, 0), Talk.text(Talk.frame(1, 0, 0, 1)));
        Talk.say(x, 0, Talk.ROWS, 0, 0, 1);
        check.due("not wholly: a MORE", Talk.drain(x, 0), Talk.text(Talk.frame(3, 0, 1, 0)));
        Talk.say(x, 0, Talk.ROWS, 0, 1, 1);
        check.due("not wholly: a MORE", Talk.drain(x, 0), Talk.text(Talk.frame(3, 0, 2, 0)));
        Talk.say(x, 0, Talk.ROWS, 0, 2, 0);
        check.due("wholly: the next", Talk.drain(x, 0), Talk.text(Talk.frame(1, 0, 3, 2)));
        check.due("it waits", x.told(0, 1), 0);
    }

    /** Within 512 calls a request's step can't come to 256: about 7 calls bring it one further. */
    private static void steps(Check check) {
        check.sentence("STEPS count its ASKs and MOREs from 0 on");
        FederationWire x = Talk.asked(0, false, 1, 2, 3, 4, 5);
        check.due("the first ASK", x.told(0, 5), 0);
        for (int step = 0; step < 40; step++) {
            Talk.say(x, 0, Talk.ROWS, 0, step, 1);
            check.due("a MORE", x.told(0, 5), step + 1);
        }
        Talk.say(x, 0, Talk.ROWS, 0, 40, 0);
        check.due("an ASK", x.told(0, 5), 41);
        x.tick(20);
        check.due("repeats don't count", x.told(0, 5), 41);
        check.due("coming up does not count", Talk.latest(x, 0),
                Talk.text(Talk.frame(1, 0, 41, 5)));
        Talk.say(x, 0, Talk.ROWS, 0, 41, 0);
        check.due("nor does being done", x.told(0, 5), 41);
        FederationWire y = Talk.asked(0, false, 1);
        Talk.askFor(y, 0, 1);
        Talk.say(y, 0, Talk.ROWS, 0, 0, 1);
        check.due("each has its own", y.told(0, 5) * 10 + y.told(1, 5), 10);
    }

    private static void numberOfTheFrames(Check check) {
        check.sentence("The number of all its frames is the request's");
        FederationWire x = new FederationWire();
        x.up(0);
        x.setting(0, 1);
        x.ask(0, false);
        x.ask(1, false);
        Talk.askFor(x, 0, 2);
        check.due("ASK", Talk.drain(x, 0), Talk.text(Talk.frame(1, 2, 0, 1)));
        Talk.say(x, 0, Talk.ROWS, 2, 0, 1, 1, 1);
        check.due("MORE", Talk.drain(x, 0), Talk.text(Talk.frame(3, 2, 1, 1)));
        Talk.say(x, 0, Talk.ROWS, 2, 1, 0);
        check.due("the next ASK", Talk.drain(x, 0), Talk.text(Talk.frame(1, 2, 2, 2)));
    }

    private static void waitsForItsStep(Check check) {
        check.sentence("It WAITS for a ROWS or CAN'T of .. its latest step; other frames .. are "
                + "DROPPED");
        FederationWire x = Talk.asked(1, false, 5);
        check.due("step -1", Talk.say(x, 1, Talk.ROWS, 0, 255, 0), 12);
        check.due("step 1", Talk.say(x, 1, Talk.ROWS, 0, 1, 0), 12);
        check.due("CAN'T, step 1", Talk.say(x, 1, Talk.CANT, 0, 1), 14);
        check.due("step 0", Talk.say(x, 1, Talk.ROWS, 0, 0, 1), 2);
        check.due("step 0 once more", Talk.say(x, 1, Talk.ROWS, 0, 0, 1), 12);
        check.due("CAN'T, step 0", Talk.say(x, 1, Talk.CANT, 0, 0), 14);
        check.due("step 2", Talk.say(x, 1, Talk.ROWS, 0, 2, 0), 12);
        check.due("it waits", Talk.told(x, 0), "1 0 0 0 0 1 0 1");
        check.due("step 1", Talk.say(x, 1, Talk.ROWS, 0, 1, 0), 2);
        check.due("it is done: step 1", Talk.say(x, 1, Talk.ROWS, 0, 1, 0), 12);
        check.due("it is done: CAN'T", Talk.say(x, 1, Talk.CANT, 0, 1), 14);
        check.due("it is done: step 2", Talk.say(x, 1, Talk.ROWS, 0, 2, 0), 12);
        check.due("told", Talk.told(x, 0), "1 1 0 0 0 1 0 1");
        check.due("dropped", x.count(4), 9);
    }

    private static void waitsForItsNumber(Check check) {
        check.sentence("It WAITS for a ROWS or CAN'T of its number; other frames .. are DROPPED");
        FederationWire x = new FederationWire();
        x.up(1);
        for (int i = 0; i < 3; i++) {
            Talk.askFor(x, 1, 1);
        }
        check.due("number 3", Talk.say(x, 1, Talk.ROWS, 3, 0, 0), 12);
        check.due("number 24", Talk.say(x, 1, Talk.CANT, 24, 0), 14);
        check.due("number 255", Talk.say(x, 1, Talk.CANT, 255, 0), 14);
        check.due("dropped", x.count(4), 3);
        check.due("number 1", Talk.say(x, 1, Talk.ROWS, 1, 0, 0, 1, 9), 2);
        check.due("request 0", Talk.told(x, 0), "1 0 0 0 0 0 0 1");
        check.due("request 1", Talk.told(x, 1), "1 1 0 1 1 0 0 1");
        check.due("request 2", Talk.told(x, 2), "1 0 0 0 0 0 0 1");
        check.due("CAN'T for 2", Talk.say(x, 1, Talk.CANT, 2, 0), 4);
        check.due("request 2", Talk.told(x, 2), "1 2 3 0 0 0 0 1");
        check.due("CAN'T once more", Talk.say(x, 1, Talk.CANT, 2, 0), 14);
        check.due("ROWS after that", Talk.say(x, 1, Talk.ROWS, 2, 0, 0, 1, 1), 12);
        check.due("request 2", Talk.told(x, 2), "1 2 3 0 0 0 0 1");
    }

    private static void waitsOnItsLine(Check check) {
        check.sentence("It WAITS .. on its house's line; other frames that come there are DROPPED");
        FederationWire x = new FederationWire();
        for (int line = 0; line < 4; line++) {
            x.up(line);
        }
        Talk.askFor(x, 2, 1);
        for (int line = 0; line < 5; line++) {
            if (line != 2) {
                check.due("ROWS on " + line, Talk.say(x, line, Talk.ROWS, 0, 0, 0), 12);
                check.due("CAN'T on " + line, Talk.say(x, line, Talk.CANT, 0, 0), 14);
            }
        }
        check.due("dropped", x.count(4), 8);
        check.due("it waits", x.told(0, 1), 0);
        check.due("ROWS on 2", Talk.say(x, 2, Talk.ROWS, 0, 0, 0), 2);
        check.due("it is done", x.told(0, 1), 1);
        check.due("dropped", x.count(4), 8);
    }

    private static void otherKindsAreDropped(Check check) {
        check.sentence("other frames that come there are DROPPED (of kinds 1 and 3, too)");
        FederationWire x = Talk.asked(3, false, 5);
        x.fact(5, 50);
        check.due("ASK", Talk.say(x, 3, Talk.ASK, 0, 0, 5), 11);
        check.due("MORE", Talk.say(x, 3, Talk.MORE, 0, 0, 0), 13);
        check.due("dropped", x.count(4), 2);
        check.due("nothing is answered", x.line(3, 1) + x.line(4, 1), 7);
        check.due("nothing is remembered", x.count(7), 0);
        check.due("it waits", Talk.told(x, 0), "3 0 0 0 0 0 0 1");
        check.due("ROWS", Talk.say(x, 3, Talk.ROWS, 0, 0, 0), 2);
        check.due("dropped", x.count(4), 2);
    }

    private static void sixtyRows(Check check) {
        check.sentence("its rows come behind those that it has (60 at most; others are left out)");
        FederationWire x = Talk.asked(3, false, 5);
        for (int i = 0; i < 7; i++) {
            Talk.say(x, 3, Talk.ROWS, 0, Talk.rowsBody(i, 1, i, 8 * i, 8));
        }
        check.due("56", x.told(0, 3), 56);
        Talk.say(x, 3, Talk.ROWS, 0, Talk.rowsBody(7, 1, 9, 56, 3));
        check.due("59", x.told(0, 3), 59);
        check.due("row 58", x.row(0, 58, 1), 58);
        check.due("row 59", x.row(0, 59, 1), -2);
        Talk.say(x, 3, Talk.ROWS, 0, Talk.rowsBody(8, 1, 10, 59, 1));
        check.due("60", x.told(0, 3), 60);
        check.due("row 59", x.row(0, 59, 1), 59);
        check.due("a 61st comes", Talk.say(x, 3, Talk.ROWS, 0, 9, 1, 11, 60), 2);
        check.due("it is left out", x.told(0, 3), 60);
        check.due("row 59", x.row(0, 59, 0), 10);
        check.due("row 60", x.row(0, 60, 0), -2);
        check.due("it goes on", Talk.say(x, 3, Talk.ROWS, 0, 10, 0), 2);
        check.due("it is done", x.told(0, 1), 1);
        check.due("row 0", x.row(0, 0, 0) * 1000 + x.row(0, 0, 1), 0);
        check.due("row 8", x.row(0, 8, 0) * 1000 + x.row(0, 8, 1), 1008);
    }

    private static void sixtyRowsWithinAFrame(Check check) {
        check.sentence("(60 at most; others are left out): 56 and 8");
        FederationWire x = Talk.asked(3, false, 5);
        for (int i = 0; i < 8; i++) {
            Talk.say(x, 3, Talk.ROWS, 0, Talk.rowsBody(i, i == 7 ? 0 : 1, 5, 8 * i, 8));
        }
        check.due("done with 60", Talk.told(x, 0), "3 1 0 60 60 7 0 1");
        check.due("the last that it has", x.row(0, 59, 1), 59);
        check.due("no other", x.row(0, 60, 1), -2);
    }

    private static void sixtyRowsOfAllParts(Check check) {
        check.sentence("(60 at most; others are left out): of all parts");
        FederationWire x = new FederationWire();
        x.up(0);
        x.setting(0, 1);
        Talk.askFor(x, 0, 3);
        for (int i = 0; i < 7; i++) {
            Talk.say(x, 0, Talk.ROWS, 0, Talk.rowsBody(i, i == 6 ? 0 : 1, 1, 8 * i, 8));
        }
        check.due("56 of the first part", x.told(0, 3), 56);
        Talk.say(x, 0, Talk.ROWS, 0, Talk.rowsBody(7, 1, 2, 100, 3));
        check.due("3 of the second", x.told(0, 3), 59);
        Talk.say(x, 0, Talk.ROWS, 0, Talk.rowsBody(8, 1, 2, 103, 2));
        check.due("one of two more", x.told(0, 3), 60);
        check.due("MORE counts those that are left out, too", Talk.latest(x, 0),
                Talk.text(Talk.frame(3, 0, 9, 5)));
        Talk.say(x, 0, Talk.ROWS, 0, Talk.rowsBody(9, 0, 2, 105, 1));
        check.due("the third part", Talk.latest(x, 0), Talk.text(Talk.frame(1, 0, 10, 3)));
        Talk.say(x, 0, Talk.ROWS, 0, Talk.rowsBody(10, 0, 3, 106, 2));
        check.due("done, with none of the third", Talk.told(x, 0), "0 1 0 60 60 10 0 3");
        check.due("row 0", x.row(0, 0, 1), 0);
        check.due("row 55", x.row(0, 55, 1), 55);
        check.due("row 56", x.row(0, 56, 1), 100);
        check.due("row 59", x.row(0, 59, 1), 103);
        check.due("row 60", x.row(0, 60, 1), -2);
    }

    private static void whateverTheirKeys(Check check) {
        check.sentence("With ROWS its rows come behind those that it has .., whatever their keys");
        FederationWire x = Talk.asked(0, false, 5);
        Talk.say(x, 0, Talk.ROWS, 0, 0, 1, 0, 255, 5, 1);
        Talk.say(x, 0, Talk.ROWS, 0, 1, 0, 255, 0, 5, 1);
        check.due("rows", Talk.rows(x, 0), "0:255 5:1 255:0 5:1");
        check.due("joined ones alone have a key of the request", x.told(0, 4), 2);
    }

    private static void moreCountsThisPart(Check check) {
        check.sentence("MORE, with the number of rows that came of this part");
        FederationWire x = new FederationWire();
        x.up(0);
        x.setting(0, 1);
        Talk.askFor(x, 0, 2);
        Talk.say(x, 0, Talk.ROWS, 0, 0, 1);
        check.due("none came", Talk.latest(x, 0), Talk.text(Talk.frame(3, 0, 1, 0)));
        Talk.say(x, 0, Talk.ROWS, 0, Talk.rowsBody(1, 1, 1, 0, 8));
        check.due("8 came", Talk.latest(x, 0), Talk.text(Talk.frame(3, 0, 2, 8)));
        Talk.say(x, 0, Talk.ROWS, 0, Talk.rowsBody(2, 1, 1, 0, 1));
        check.due("one more", Talk.latest(x, 0), Talk.text(Talk.frame(3, 0, 3, 9)));
        Talk.say(x, 0, Talk.ROWS, 0, Talk.rowsBody(3, 0, 1, 0, 5));
        check.due("the next part", Talk.latest(x, 0), Talk.text(Talk.frame(1, 0, 4, 2)));
        Talk.say(x, 0, Talk.ROWS, 0, Talk.rowsBody(4, 1, 1, 0, 2));
        check.due("of this part alone", Talk.latest(x, 0), Talk.text(Talk.frame(3, 0, 5, 2)));
        check.due("rows of both", x.told(0, 3), 16);
    }

    /**
     * The serving end is asked from outside for its first 8 of 9 rows again and again, in the
     * request's name, so that 256 rows come within few calls.
     */
    private static void moreCountsAllOfThem(Check check) {
        check.sentence("(all of them, modulo 256)");
        FederationWire x = Talk.asked(0, false, 1);
        Talk.facts(x, 1, 9);
        x.loop(0, 7);
        for (int step = 1; step <= 30; step++) {
            if (step == 7 || step == 8) {
                check.due("MORE", Talk.latest(x, 0), Talk.text(Talk.frame(3, 0, step, 8 * step)));
            }
            Talk.say(x, 4, Talk.MORE, 0, step, 0);
            check.due("8 rows, more", x.loop(0, 0), 23);
        }
        check.due("rows that it has", x.told(0, 3), 60);
        check.due("248 came", Talk.latest(x, 0), Talk.text(Talk.frame(3, 0, 31, 248)));
        Talk.say(x, 0, Talk.ROWS, 0, Talk.rowsBody(31, 1, 1, 0, 7));
        check.due("255 came", Talk.latest(x, 0), Talk.text(Talk.frame(3, 0, 32, 255)));
        Talk.say(x, 0, Talk.ROWS, 0, Talk.rowsBody(32, 1, 1, 0, 1));
        check.due("256 came", Talk.latest(x, 0), Talk.text(Talk.frame(3, 0, 33, 0)));
        Talk.say(x, 0, Talk.ROWS, 0, Talk.rowsBody(33, 1, 1, 0, 1));
        check.due("257 came", Talk.latest(x, 0), Talk.text(Talk.frame(3, 0, 34, 1)));
        check.due("rows that it has", x.told(0, 3), 60);
    }

    private static void moreOrNextPartOrDone(Check check) {
        check.sentence("when there are more: MORE ..; else the next part, or it is DONE");
        FederationWire x = new FederationWire();
        x.up(0);
        x.setting(0, 1);
        Talk.askFor(x, 0, 2);
        Talk.drain(x, 0);
        Talk.say(x, 0, Talk.ROWS, 0, 0, 0);
        check.due("another part is left", Talk.drain(x, 0), Talk.text(Talk.frame(1, 0, 1, 2)));
        check.due("it waits", x.told(0, 1), 0);
        Talk.say(x, 0, Talk.ROWS, 0, 1, 1);
        check.due("more of the last part", Talk.drain(x, 0), Talk.text(Talk.frame(3, 0, 2, 0)));
        check.due("it waits", x.told(0, 1), 0);
        Talk.say(x, 0, Talk.ROWS, 0, 2, 0);
        check.due("no part is left", Talk.drain(x, 0), "");
        check.due("it is done", x.told(0, 1), 1);
    }

    private static void failsByCant(Check check) {
        check.sentence("With CAN'T it FAILS (3)");
        FederationWire x = new FederationWire();
        x.up(0);
        x.setting(0, 1);
        Talk.askFor(x, 0, 2);
        Talk.drain(x, 0);
        check.due("CAN'T", Talk.say(x, 0, Talk.CANT, 0, 0), 4);
        check.due("it failed", Talk.told(x, 0), "0 2 3 0 0 0 0 2");
        check.due("nothing is sent", x.line(0, 1), 0);
        check.due("it fails but once", x.tick(1000), 0);
        x.down(0);
        check.due("it waits no more", x.up(0), 0);
    }

    private static void failsKeepsItsRows(Check check) {
        check.sentence("A request that FAILS keeps its rows");
        FederationWire x = Talk.asked(0, false, 5);
        Talk.say(x, 0, Talk.ROWS, 0, 0, 1, 5, 50, 6, 60);
        Talk.say(x, 0, Talk.CANT, 0, 1);
        check.due("by CAN'T", Talk.rows(x, 0), "5:50 6:60");
        FederationWire y = Talk.asked(0, false, 5);
        Talk.say(y, 0, Talk.ROWS, 0, 0, 1, 5, 50);
        check.due("fails", y.tick(30), 1);
        check.due("on the clock", Talk.rows(y, 0), "5:50");
        check.due("told", Talk.told(y, 0), "0 2 1 1 0 1 2 1");
    }

    private static void silentOnes(Check check) {
        check.sentence("A SILENT one is DONE instead, without rows, and is then JOINED as if each "
                + "binding had one row with the value -1");
        FederationWire x = Talk.asked(0, true, 5, 6, 5);
        Talk.say(x, 0, Talk.ROWS, 0, 0, 1, 5, 50, 5, 51);
        check.due("it has rows before", x.told(0, 3), 2);
        Talk.say(x, 0, Talk.CANT, 0, 1);
        check.due("by CAN'T", Talk.told(x, 0), "0 1 3 0 3 1 0 2");
        check.due("rows", Talk.rows(x, 0), "");
        check.due("joined", Talk.joined(x, 0), "100:-1 101:-1 102:-1");
        FederationWire y = Talk.asked(0, true, 5);
        Talk.say(y, 0, Talk.ROWS, 0, 0, 1, 5, 50, 5, 51);
        check.due("fails", y.tick(30), 1);
        check.due("on the clock", Talk.told(y, 0), "0 1 1 0 1 1 2 1");
        check.due("joined", Talk.joined(y, 0), "100:-1");
        FederationWire z = Talk.asked(0, true, 5, 6);
        Talk.say(z, 0, Talk.ROWS, 0, 0, 0, 6, 60);
        check.due("one that did not fail", Talk.told(z, 0), "0 1 0 1 1 0 0 2");
        check.due("joined", Talk.joined(z, 0), "101:60");
    }
}
