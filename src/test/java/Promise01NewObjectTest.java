/** Promise 1: what a new object is. */
public final class Promise01NewObjectTest {
    public static void main(String[] args) {
        Check check = new Check();
        FederationWire x = new FederationWire();
        for (int what = 0; what < 8; what++) {
            check.due("count(" + what + ")", x.count(what), 0);
        }
        for (int line = 0; line < 5; line++) {
            check.due("line(" + line + ", 0)", x.line(line, 0), line == 4 ? 1 : 0);
            check.due("line(" + line + ", 1)", x.line(line, 1), 0);
            check.due("line(" + line + ", 2)", x.line(line, 2), 0);
        }
        for (int house = 0; house < 4; house++) {
            check.due("estimate(" + house + ")", x.estimate(house), 1000);
        }
        check.due("told(0, 0)", x.told(0, 0), -1);
        check.due("BULK", x.setting(0, 1), 4);
        check.due("PATIENCE", x.setting(1, 1), 10);
        check.due("RETRIES", x.setting(2, 1), 2);
        twoObjectsShareNothing(check);
        check.end();
    }

    private static void twoObjectsShareNothing(Check check) {
        FederationWire one = new FederationWire();
        FederationWire other = new FederationWire();
        one.fact(1, 1);
        one.bind(1, 1);
        one.up(0);
        one.ask(0, false);
        one.tick(5);
        check.due("other's facts", other.count(1), 0);
        check.due("other's requests", other.count(0), 0);
        check.due("other's clock", other.count(3), 0);
        check.due("other's line", other.line(0, 0), 0);
    }
}
