/** Promise 8: the out row goes byte by byte, in order, and holds whole frames up to 300 bytes. */
public final class Promise08OutTest {
    public static void main(String[] args) {
        Check check = new Check();
        FederationWire x = Talk.asked(0, false, 200, 126);
        check.due("out(-1)", x.out(-1), -1);
        check.due("out(5)", x.out(5), -1);
        check.due("out(MAX)", x.out(Integer.MAX_VALUE), -1);
        check.due("out(1)", x.out(1), -2);
        check.due("out(4)", x.out(4), -2);
        int[] due = {126, 1, 0, 3, 0, 200, 126, 1 ^ 3 ^ 200 ^ 126};
        for (int i = 0; i < due.length; i++) {
            check.due("left", x.line(0, 1), due.length - i);
            check.due("byte " + i, x.out(0), due[i]);
        }
        check.due("none", x.out(0), -2);
        servingAnswersLeave(check);
        framesThatDoNotFit(check);
        rowGoesRound(check);
        check.end();
    }

    private static void servingAnswersLeave(Check check) {
        FederationWire x = new FederationWire();
        x.fact(255, 254);
        Talk.say(x, 4, Talk.ASK, 253, 252, 255);
        check.due("out(4)", Talk.drain(x, 4), Talk.text(Talk.frame(2, 253, 252, 0, 255, 254)));
    }

    private static void framesThatDoNotFit(Check check) {
        FederationWire x = new FederationWire();
        Talk.facts(x, 1, 8);
        for (int i = 0; i < 13; i++) {
            Talk.say(x, 4, Talk.ASK, 1, 0, 1);
        }
        check.due("13 frames of 23 bytes", x.line(4, 1), 299);
        check.due("none is lost", x.count(5), 0);
        check.due("it is answered all the same", Talk.say(x, 4, Talk.ASK, 1, 0, 1), 1);
        check.due("one is lost", x.count(5), 1);
        check.due("as a whole", x.line(4, 1), 299);
        for (int i = 0; i < 21; i++) {
            x.out(4);
        }
        Talk.say(x, 4, Talk.ASK, 1, 0, 1);
        check.due("22 bytes of room", x.line(4, 1), 278);
        x.out(4);
        Talk.say(x, 4, Talk.ASK, 1, 0, 1);
        check.due("23 bytes of room", x.line(4, 1), 300);
        check.due("lost", x.count(5), 2);
        Talk.say(x, 4, Talk.MORE, 7, 0, 0);
        check.due("no room at all", x.line(4, 1), 300);
        check.due("lost", x.count(5), 3);
        check.due("the first frame's sum", x.out(4),
                Talk.frame(2, 1, Talk.rowsBody(0, 0, 1, 0, 8))[22]);
    }

    private static void rowGoesRound(Check check) {
        FederationWire x = new FederationWire();
        Talk.facts(x, 1, 8);
        String answer = Talk.text(Talk.frame(2, 1, Talk.rowsBody(0, 0, 1, 0, 8)));
        Talk.say(x, 4, Talk.ASK, 1, 0, 1);
        for (int i = 0; i < 14; i++) {
            Talk.say(x, 4, Talk.ASK, 1, 0, 1);
            StringBuilder text = new StringBuilder();
            for (int b = 0; b < 23; b++) {
                text.append(b == 0 ? "" : " ").append(x.out(4));
            }
            check.due("answer " + i, text.toString(), answer);
        }
    }
}
