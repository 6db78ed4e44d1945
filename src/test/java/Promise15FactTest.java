/** Promise 15: the facts, and the serving end that answers from them. */
public final class Promise15FactTest {
    public static void main(String[] args) {
        Check check = new Check();
        bounds(check);
        rowsOfAnAsk(check);
        more(check);
        stepsOfMore(check);
        repeats(check);
        eightNumbers(check);
        sixtyRows(check);
        check.end();
    }

    private static void bounds(Check check) {
        FederationWire x = new FederationWire();
        check.due("fact(-1, 0)", x.fact(-1, 0), -1);
        check.due("fact(256, 0)", x.fact(256, 0), -1);
        check.due("fact(0, -1)", x.fact(0, -1), -1);
        check.due("fact(0, 256)", x.fact(0, 256), -1);
        check.due("fact(MIN, MAX)", x.fact(Integer.MIN_VALUE, Integer.MAX_VALUE), -1);
        check.due("fact(0, 0)", x.fact(0, 0), 1);
        check.due("fact(255, 255)", x.fact(255, 255), 2);
        check.due("the same again", x.fact(255, 255), 3);
        for (int i = 4; i <= 60; i++) {
            check.due("fact", x.fact(i, i), i);
        }
        check.due("fact: full", x.fact(1, 1), -3);
        check.due("fact: bad before full", x.fact(1, 256), -1);
        check.due("facts", x.count(1), 60);
    }

    private static void due(Check check, FederationWire x, String what, int[] want) {
        check.due(what, Talk.drain(x, 4), Talk.text(want));
    }

    private static void rowsOfAnAsk(Check check) {
        FederationWire x = new FederationWire();
        x.fact(1, 10);
        x.fact(2, 20);
        x.fact(1, 11);
        Talk.say(x, 4, Talk.ASK, 5, 9, 2, 7, 1);
        due(check, x, "by keys, then by facts", Talk.frame(2, 5, 9, 0, 2, 20, 1, 10, 1, 11));
        Talk.say(x, 4, Talk.ASK, 5, 10, 1, 1);
        due(check, x, "a key twice", Talk.frame(2, 5, 10, 0, 1, 10, 1, 11, 1, 10, 1, 11));
        Talk.say(x, 4, Talk.ASK, 5, 11, 3);
        due(check, x, "none", Talk.frame(2, 5, 11, 0));
    }

    private static void more(Check check) {
        FederationWire x = new FederationWire();
        Talk.facts(x, 6, 17);
        Talk.say(x, 4, Talk.ASK, 1, 0, 6);
        due(check, x, "first 8", Talk.frame(2, 1, Talk.rowsBody(0, 1, 6, 0, 8)));
        Talk.say(x, 4, Talk.MORE, 1, 1, 8);
        due(check, x, "next 8", Talk.frame(2, 1, Talk.rowsBody(1, 1, 6, 8, 8)));
        Talk.say(x, 4, Talk.MORE, 1, 2, 9);
        due(check, x, "the last 8", Talk.frame(2, 1, Talk.rowsBody(2, 0, 6, 9, 8)));
        Talk.say(x, 4, Talk.MORE, 1, 3, 16);
        due(check, x, "one is left", Talk.frame(2, 1, Talk.rowsBody(3, 0, 6, 16, 1)));
        Talk.say(x, 4, Talk.MORE, 1, 4, 17);
        due(check, x, "none is left", Talk.frame(2, 1, 4, 0));
        check.due("MORE", Talk.say(x, 4, Talk.MORE, 1, 5, 18), 3);
        due(check, x, "less rows than that", Talk.frame(4, 1, 5));
        Talk.say(x, 4, Talk.MORE, 1, 5, 255);
        due(check, x, "less rows than that", Talk.frame(4, 1, 5));
        Talk.say(x, 4, Talk.MORE, 1, 6, 0);
        due(check, x, "step 5 was not answered by ROWS", Talk.frame(4, 1, 6));
        Talk.say(x, 4, Talk.MORE, 1, 5, 0);
        due(check, x, "from the first on", Talk.frame(2, 1, Talk.rowsBody(5, 1, 6, 0, 8)));
        Talk.say(x, 4, Talk.MORE, 2, 1, 0);
        due(check, x, "no such number", Talk.frame(4, 2, 1));
    }

    private static void stepsOfMore(Check check) {
        FederationWire x = new FederationWire();
        x.fact(6, 60);
        Talk.say(x, 4, Talk.ASK, 1, 254, 6);
        due(check, x, "ASK", Talk.frame(2, 1, 254, 0, 6, 60));
        Talk.say(x, 4, Talk.MORE, 1, 253, 0);
        due(check, x, "the step before", Talk.frame(4, 1, 253));
        Talk.say(x, 4, Talk.MORE, 1, 0, 0);
        due(check, x, "the step after the next", Talk.frame(4, 1, 0));
        Talk.say(x, 4, Talk.MORE, 1, 254, 0);
        due(check, x, "the step of the ASK", Talk.frame(2, 1, 254, 0, 6, 60));
        Talk.say(x, 4, Talk.MORE, 1, 255, 0);
        due(check, x, "the next", Talk.frame(2, 1, 255, 0, 6, 60));
        Talk.say(x, 4, Talk.MORE, 1, 255, 1);
        due(check, x, "the same again", Talk.frame(2, 1, 255, 0));
        Talk.say(x, 4, Talk.MORE, 1, 254, 0);
        due(check, x, "too old now", Talk.frame(4, 1, 254));
        Talk.say(x, 4, Talk.MORE, 1, 0, 0);
        due(check, x, "0 is next to 255", Talk.frame(2, 1, 0, 0, 6, 60));
        Talk.say(x, 4, Talk.ASK, 1, 254, 6);
        due(check, x, "a repeat", Talk.frame(2, 1, 254, 0, 6, 60));
        Talk.say(x, 4, Talk.MORE, 1, 255, 0);
        due(check, x, "the repeat does not set the step back", Talk.frame(4, 1, 255));
        Talk.say(x, 4, Talk.MORE, 1, 1, 1);
        due(check, x, "the next", Talk.frame(2, 1, 1, 0));
        check.due("repeats: ASKs alone", x.count(6), 1);
    }

    private static void repeats(Check check) {
        FederationWire x = new FederationWire();
        x.fact(6, 60);
        Talk.say(x, 4, Talk.ASK, 1, 3, 6);
        Talk.drain(x, 4);
        x.fact(6, 61);
        check.due("a repeat", Talk.say(x, 4, Talk.ASK, 1, 3, 6), 1);
        due(check, x, "as it was then", Talk.frame(2, 1, 3, 0, 6, 60));
        Talk.say(x, 4, Talk.ASK, 1, 3, 7, 7);
        due(check, x, "whatever its keys", Talk.frame(2, 1, 3, 0, 6, 60));
        check.due("repeats", x.count(6), 2);
        Talk.say(x, 4, Talk.ASK, 1, 4, 6);
        due(check, x, "another step", Talk.frame(2, 1, 4, 0, 6, 60, 6, 61));
        Talk.say(x, 4, Talk.ASK, 2, 3, 6);
        due(check, x, "another number", Talk.frame(2, 2, 3, 0, 6, 60, 6, 61));
        check.due("repeats", x.count(6), 2);
        x.fact(6, 62);
        Talk.say(x, 4, Talk.ASK, 1, 3, 6);
        due(check, x, "the first step is forgotten",
                Talk.frame(2, 1, 3, 0, 6, 60, 6, 61, 6, 62));
        check.due("numbers", x.count(7), 2);
        Talk.say(x, 4, Talk.MORE, 1, 4, 1);
        due(check, x, "MORE", Talk.frame(2, 1, 4, 0, 6, 61, 6, 62));
        Talk.say(x, 4, Talk.ASK, 1, 4, 7);
        due(check, x, "the step of a MORE is no repeat", Talk.frame(2, 1, 4, 0));
        check.due("repeats", x.count(6), 2);
    }

    private static void eightNumbers(Check check) {
        FederationWire x = new FederationWire();
        for (int number = 1; number <= 8; number++) {
            Talk.say(x, 4, Talk.ASK, number, 0, 1);
            check.due("numbers", x.count(7), number);
        }
        Talk.say(x, 4, Talk.ASK, 2, 1, 1);
        Talk.say(x, 4, Talk.ASK, 1, 0, 1);
        Talk.say(x, 4, Talk.MORE, 1, 1, 0);
        check.due("a repeat and a MORE are no new asking", x.count(6), 1);
        Talk.say(x, 4, Talk.ASK, 9, 0, 1);
        check.due("numbers", x.count(7), 8);
        Talk.drain(x, 4);
        Talk.say(x, 4, Talk.MORE, 1, 1, 0);
        due(check, x, "1 is gone", Talk.frame(4, 1, 1));
        Talk.say(x, 4, Talk.ASK, 10, 0, 1);
        Talk.drain(x, 4);
        Talk.say(x, 4, Talk.MORE, 3, 0, 0);
        due(check, x, "3 is gone", Talk.frame(4, 3, 0));
        Talk.say(x, 4, Talk.MORE, 2, 1, 0);
        due(check, x, "2 was asked anew", Talk.frame(2, 2, 1, 0));
        for (int number = 11; number <= 15; number++) {
            Talk.say(x, 4, Talk.ASK, number, 0, 1);
        }
        Talk.drain(x, 4);
        Talk.say(x, 4, Talk.MORE, 8, 0, 0);
        due(check, x, "8 is gone", Talk.frame(4, 8, 0));
        Talk.say(x, 4, Talk.MORE, 2, 1, 0);
        due(check, x, "2 is there", Talk.frame(2, 2, 1, 0));
        Talk.say(x, 4, Talk.ASK, 16, 0, 1);
        Talk.drain(x, 4);
        Talk.say(x, 4, Talk.MORE, 2, 1, 0);
        due(check, x, "2 is gone", Talk.frame(4, 2, 1));
        check.due("numbers", x.count(7), 8);
    }

    private static void sixtyRows(Check check) {
        FederationWire x = new FederationWire();
        Talk.facts(x, 6, 59);
        Talk.say(x, 4, Talk.ASK, 1, 0, 6, 6);
        Talk.drain(x, 4);
        Talk.say(x, 4, Talk.MORE, 1, 1, 56);
        due(check, x, "60 at most", Talk.frame(2, 1, 1, 0, 6, 56, 6, 57, 6, 58, 6, 0));
        Talk.say(x, 4, Talk.MORE, 1, 2, 52);
        due(check, x, "just 8 are left", Talk.frame(2, 1, 2, 0,
                6, 52, 6, 53, 6, 54, 6, 55, 6, 56, 6, 57, 6, 58, 6, 0));
        Talk.say(x, 4, Talk.MORE, 1, 3, 60);
        due(check, x, "none is left", Talk.frame(2, 1, 3, 0));
        Talk.say(x, 4, Talk.MORE, 1, 4, 61);
        due(check, x, "less than that", Talk.frame(4, 1, 4));
    }
}
