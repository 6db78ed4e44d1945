/** Promise 15: the facts (what is answered from them: TermsServingTest). */
public final class Promise15FactTest {
    public static void main(String[] args) {
        Check check = new Check("Promise 15");
        howMany(check);
        noSuchKey(check);
        noSuchValue(check);
        full(check);
        badWhenFull(check);
        check.end();
    }

    private static void howMany(Check check) {
        check.sentence("A fact: how many there are");
        FederationWire x = new FederationWire();
        check.due("one", x.fact(1, 10), 1);
        check.due("the same again", x.fact(1, 10), 2);
        check.due("another", x.fact(2, 10), 3);
        check.due("count", x.count(1), 3);
        check.due("all are served", Talk.answer(x, Talk.ASK, 0, 0, 1, 2),
                Talk.text(Talk.frame(2, 0, 0, 0, 1, 10, 1, 10, 2, 10)));
    }

    private static void noSuchKey(Check check) {
        check.sentence("BAD: no such key");
        FederationWire x = new FederationWire();
        for (int key : new int[] {-1, 256, Integer.MIN_VALUE, Integer.MAX_VALUE}) {
            check.due("fact(" + key + ", 1)", x.fact(key, 1), -1);
            check.due("none", x.count(1), 0);
        }
        check.due("fact(0, 1)", x.fact(0, 1), 1);
        check.due("fact(255, 1)", x.fact(255, 1), 2);
    }

    private static void noSuchValue(Check check) {
        check.sentence("BAD: no such .. value");
        FederationWire x = new FederationWire();
        for (int value : new int[] {-1, 256, Integer.MIN_VALUE, Integer.MAX_VALUE}) {
            check.due("fact(1, " + value + ")", x.fact(1, value), -1);
            check.due("none", x.count(1), 0);
        }
        check.due("fact(1, 0)", x.fact(1, 0), 1);
        check.due("fact(1, 255)", x.fact(1, 255), 2);
        check.due("fact(-1, 256)", x.fact(-1, 256), -1);
        check.due("served", Talk.answer(x, Talk.ASK, 0, 0, 1),
                Talk.text(Talk.frame(2, 0, 0, 0, 1, 0, 1, 255)));
    }

    private static void full(Check check) {
        check.sentence("FULL");
        FederationWire x = new FederationWire();
        for (int i = 1; i <= 60; i++) {
            check.due("fact " + i, x.fact(i, i), i);
        }
        check.due("a 61st", x.fact(61, 61), -3);
        check.due("one that is there", x.fact(1, 1), -3);
        check.due("facts", x.count(1), 60);
        check.due("the 60th is there, a 61st is not", Talk.answer(x, Talk.ASK, 0, 0, 61, 60, 1),
                Talk.text(Talk.frame(2, 0, 0, 0, 60, 60, 1, 1)));
    }

    private static void badWhenFull(Check check) {
        check.sentence("BAD: no such key or value; FULL (both)");
        FederationWire x = new FederationWire();
        Talk.facts(x, 1, 60);
        check.due("fact(-1, 0)", x.fact(-1, 0), -1);
        check.due("fact(256, 0)", x.fact(256, 0), -1);
        check.due("fact(0, -1)", x.fact(0, -1), -1);
        check.due("fact(0, 256)", x.fact(0, 256), -1);
        check.due("fact(0, 0)", x.fact(0, 0), -3);
        check.due("fact(255, 255)", x.fact(255, 255), -3);
    }
}
