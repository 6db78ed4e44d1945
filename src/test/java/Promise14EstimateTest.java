/** Promise 14: the estimate of a house (how it is learnt: TermsJoinedTest). */
public final class Promise14EstimateTest {
    public static void main(String[] args) {
        Check check = new Check("Promise 14");
        bad(check);
        ofAHouse(check);
        check.end();
    }

    private static void bad(Check check) {
        check.sentence("BAD");
        FederationWire x = new FederationWire();
        for (int house : new int[] {-1, 4, 5, Integer.MAX_VALUE, Integer.MIN_VALUE}) {
            check.due("estimate(" + house + ")", x.estimate(house), -1);
        }
        check.due("estimate(0)", x.estimate(0), 1000);
        check.due("estimate(3)", x.estimate(3), 1000);
    }

    private static void ofAHouse(Check check) {
        check.sentence("ESTIMATE of a house");
        for (int house = 0; house < 4; house++) {
            FederationWire x = Talk.asked(house, false, 1, 2, 3);
            check.due("before", x.estimate(house), 1000);
            Talk.say(x, house, Talk.ROWS, 0, 0, 0, 1, 1, 9, 9);
            for (int other = 0; other < 4; other++) {
                check.due("house " + other, x.estimate(other), other == house ? 666 : 1000);
            }
            Talk.askFor(x, house, 1);
            Talk.say(x, house, Talk.ROWS, 1, 0, 0, 1, 1);
            check.due("(666 + 1000) / 2", x.estimate(house), 833);
            x.down(house);
            check.due("the line does not matter", x.estimate(house), 833);
        }
    }
}
