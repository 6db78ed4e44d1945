/** Promise 16: the counts. */
public final class Promise16CountTest {
    public static void main(String[] args) {
        Check check = new Check();
        FederationWire x = new FederationWire();
        check.due("count(-1)", x.count(-1), -1);
        check.due("count(8)", x.count(8), -1);
        check.due("count(MAX)", x.count(Integer.MAX_VALUE), -1);
        x.fact(1, 1);
        x.fact(2, 2);
        check.due("facts", counts(x), "0 2 0 0 0 0 0 0");
        x.bind(1, 1);
        x.bind(1, 2);
        x.bind(1, 3);
        check.due("bindings", counts(x), "0 2 3 0 0 0 0 0");
        x.ask(1, false);
        check.due("a request whose frame is lost", counts(x), "1 2 0 0 0 1 0 0");
        x.tick(7);
        check.due("clock", counts(x), "1 2 0 7 0 1 0 0");
        x.tick(3);
        check.due("a repeat is lost, too", counts(x), "1 2 0 10 0 2 0 0");
        x.up(1);
        x.up(2);
        check.due("nothing is lost", counts(x), "1 2 0 10 0 2 0 0");
        Talk.say(x, 2, Talk.ROWS, 0, 0, 0);
        Talk.say(x, 4, Talk.CANT, 0, 0);
        check.due("dropped", counts(x), "1 2 0 10 2 2 0 0");
        x.loop(1, 100);
        check.due("remembered", counts(x), "1 2 0 10 2 2 0 1");
        Talk.say(x, 4, Talk.ASK, 0, 0, 1);
        check.due("a repeat", counts(x), "1 2 0 10 2 2 1 1");
        Talk.say(x, 4, Talk.MORE, 3, 0, 1);
        check.due("a number of none", counts(x), "1 2 0 10 2 2 1 1");
        x.octet(2, (byte) 3);
        check.due("a wrong byte", counts(x), "1 2 0 10 2 2 1 1");
        x.ask(9, false);
        x.bind(999, 1);
        x.fact(999, 1);
        x.tick(9999);
        check.due("wrong calls", counts(x), "1 2 0 10 2 2 1 1");
        check.end();
    }

    private static String counts(FederationWire x) {
        StringBuilder text = new StringBuilder();
        for (int what = 0; what < 8; what++) {
            text.append(what == 0 ? "" : " ").append(x.count(what));
        }
        return text.toString();
    }
}
