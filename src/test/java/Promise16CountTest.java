/** Promise 16: the counts. */
public final class Promise16CountTest {
    public static void main(String[] args) {
        Check check = new Check("Promise 16");
        bad(check);
        requests(check);
        facts(check);
        bindings(check);
        clock(check);
        droppedOnes(check);
        lostOnes(check);
        repeats(check);
        numbers(check);
        refusedCalls(check);
        check.end();
    }

    private static void bad(Check check) {
        check.sentence("BAD");
        FederationWire x = new FederationWire();
        for (int what : new int[] {-1, 8, 9, Integer.MAX_VALUE, Integer.MIN_VALUE}) {
            check.due("count(" + what + ")", x.count(what), -1);
        }
        check.due("count(0)", x.count(0), 0);
        check.due("count(7)", x.count(7), 0);
    }

    private static void requests(Check check) {
        check.sentence("0 how many requests there are");
        FederationWire x = new FederationWire();
        for (int i = 0; i < 26; i++) {
            check.due("requests", x.count(0), Math.min(i, 24));
            x.ask(0, false);
        }
    }

    private static void facts(Check check) {
        check.sentence("1 facts");
        FederationWire x = new FederationWire();
        for (int i = 0; i < 62; i++) {
            check.due("facts", x.count(1), Math.min(i, 60));
            x.fact(0, 0);
        }
    }

    private static void bindings(Check check) {
        check.sentence("2 bindings for the next one");
        FederationWire x = new FederationWire();
        for (int i = 0; i < 22; i++) {
            check.due("bindings", x.count(2), Math.min(i, 20));
            x.bind(0, 0);
        }
        x.ask(0, false);
        check.due("none are there then", x.count(2), 0);
    }

    private static void clock(Check check) {
        check.sentence("3 the second of the clock");
        FederationWire x = new FederationWire();
        x.tick(0);
        check.due("0", x.count(3), 0);
        x.tick(1);
        check.due("1", x.count(3), 1);
        x.tick(1000);
        check.due("1001", x.count(3), 1001);
        x.tick(1001);
        check.due("a refused call", x.count(3), 1001);
    }

    private static void droppedOnes(Check check) {
        check.sentence("4 frames that were dropped");
        FederationWire x = Talk.asked(1, false, 5);
        Talk.say(x, 1, Talk.ROWS, 0, 1, 0);
        check.due("on a house's line", x.count(4), 1);
        Talk.say(x, 4, Talk.CANT, 0, 0);
        check.due("on line 4", x.count(4), 2);
        Talk.say(x, 4, Talk.ASK, 0, 0, 1);
        Talk.say(x, 4, Talk.MORE, 3, 0, 1);
        Talk.say(x, 1, Talk.ROWS, 0, 0, 1);
        check.due("none of those that are used", x.count(4), 2);
        Talk.feed(x, 4, 126, 4, 0, 1, 0, 4);
        Talk.feed(x, 1, 126, 4, 0, 1, 0, 4);
        check.due("none that is wrong", x.count(4), 2);
        x.up(1);
        Talk.feed(x, 1, 126, 4, 0, 1, 0);
        x.down(1);
        check.due("none that was open", x.count(4), 2);
        x.up(1);
        x.loop(1, 0);
        check.due("two that came by a loop", x.count(4), 4);
    }

    private static void lostOnes(Check check) {
        check.sentence("5 frames that were lost");
        FederationWire x = new FederationWire();
        Talk.askFor(x, 0, 1);
        check.due("an ASK", x.count(5), 1);
        x.tick(10);
        check.due("a repeat", x.count(5), 2);
        x.up(0);
        check.due("coming up", x.count(5), 2);
        x.down(0);
        check.due("what stood in the out row", x.count(5), 2);
        x.ask(0, false);
        check.due("without keys nothing is sent", x.count(5), 2);
        for (int i = 0; i < 51; i++) {
            Talk.say(x, 4, Talk.MORE, 9, i, 0);
        }
        check.due("an answer", x.count(5), 3);
    }

    private static void repeats(Check check) {
        check.sentence("6 repeats that the serving end had");
        FederationWire x = new FederationWire();
        Talk.answer(x, Talk.ASK, 0, 0, 1);
        check.due("none", x.count(6), 0);
        Talk.answer(x, Talk.ASK, 0, 0, 1);
        check.due("one", x.count(6), 1);
        Talk.answer(x, Talk.ASK, 0, 1, 1);
        Talk.answer(x, Talk.ASK, 1, 0, 1);
        check.due("another step, another number", x.count(6), 1);
        Talk.answer(x, Talk.ASK, 1, 0, 2);
        check.due("two", x.count(6), 2);
        Talk.answer(x, Talk.MORE, 1, 0, 0);
        Talk.answer(x, Talk.MORE, 1, 0, 0);
        check.due("MOREs are none", x.count(6), 2);
        FederationWire y = Talk.asked(0, false, 1);
        y.tick(10);
        check.due("a repeat that was sent, but did not come", y.count(6), 0);
        y.loop(0, 99);
        check.due("it came", y.count(6), 1);
    }

    private static void numbers(Check check) {
        check.sentence("7 numbers that it remembers");
        FederationWire x = new FederationWire();
        for (int number = 0; number < 10; number++) {
            check.due("numbers", x.count(7), Math.min(number, 8));
            Talk.answer(x, Talk.ASK, number, 0, 1);
        }
        Talk.answer(x, Talk.ASK, 9, 1, 1);
        check.due("another step", x.count(7), 8);
        FederationWire y = new FederationWire();
        Talk.answer(y, Talk.MORE, 0, 0, 0);
        check.due("a MORE is not remembered", y.count(7), 0);
        Talk.answer(y, Talk.ASK, 0, 0, 1);
        Talk.answer(y, Talk.ASK, 0, 1, 1);
        check.due("one number", y.count(7), 1);
    }

    private static void refusedCalls(Check check) {
        check.sentence("count (after calls that were refused)");
        FederationWire x = new FederationWire();
        x.ask(4, false);
        x.bind(256, 1);
        x.fact(256, 1);
        x.tick(1001);
        x.up(4);
        x.down(0);
        x.octet(0, (byte) 0);
        x.octet(5, (byte) 0);
        x.out(0);
        x.loop(0, 1);
        x.setting(0, 0);
        check.due("counts", Talk.counts(x), "0 0 0 0 0 0 0 0");
    }
}
