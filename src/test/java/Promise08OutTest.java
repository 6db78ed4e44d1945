/** Promise 8: the out row goes byte by byte, in order. */
public final class Promise08OutTest {
    public static void main(String[] args) {
        Check check = new Check("Promise 8");
        firstByteGoes(check);
        unsigned(check);
        noSuchLine(check);
        thereIsNone(check);
        eachLineHasItsOwn(check);
        check.end();
    }

    private static void firstByteGoes(Check check) {
        check.sentence("The first byte of a line's out row, which goes");
        FederationWire x = Talk.asked(0, false, 200, 126);
        int[] due = {126, 1, 0, 3, 0, 200, 126, 1 ^ 3 ^ 200 ^ 126};
        for (int i = 0; i < due.length; i++) {
            check.due("left", x.line(0, 1), due.length - i);
            check.due("byte " + i, x.out(0), due[i]);
        }
        check.due("left", x.line(0, 1), 0);
    }

    private static void unsigned(Check check) {
        check.sentence("0 .. 255");
        FederationWire x = Talk.asked(0, false, 0, 127, 128, 255);
        check.due("ASK", Talk.drain(x, 0), Talk.text(Talk.frame(1, 0, 0, 0, 127, 128, 255)));
        x.fact(255, 254);
        check.due("ROWS", Talk.answer(x, Talk.ASK, 253, 252, 255),
                Talk.text(Talk.frame(2, 253, 252, 0, 255, 254)));
    }

    private static void noSuchLine(Check check) {
        check.sentence("BAD: no such line");
        FederationWire x = Talk.asked(0, false, 1);
        Talk.say(x, 4, Talk.ASK, 0, 0, 1);
        for (int line : new int[] {-1, 5, Integer.MAX_VALUE, Integer.MIN_VALUE}) {
            check.due("out(" + line + ")", x.out(line), -1);
        }
        check.due("nothing goes", x.line(0, 1) + x.line(4, 1), 14);
        check.due("out(0)", x.out(0), 126);
        check.due("out(4)", x.out(4), 126);
    }

    private static void thereIsNone(Check check) {
        check.sentence("NO: there is none");
        FederationWire x = new FederationWire();
        check.due("a line that is not up", x.out(0), -2);
        x.up(0);
        check.due("an empty row", x.out(0), -2);
        check.due("line 4", x.out(4), -2);
        Talk.askFor(x, 0, 1);
        Talk.take(x, 0, 6);
        check.due("the last byte", x.out(0), 1 ^ 2 ^ 1);
        check.due("none behind it", x.out(0), -2);
        check.due("none behind it", x.out(0), -2);
        Talk.askFor(x, 0, 1);
        check.due("another frame", x.out(0), 126);
        x.down(0);
        check.due("gone with the line", x.out(0), -2);
    }

    private static void eachLineHasItsOwn(Check check) {
        check.sentence("a line's out row");
        FederationWire x = new FederationWire();
        for (int line = 0; line < 4; line++) {
            x.up(line);
            x.bind(10 + line, 1);
            x.ask(line, false);
        }
        Talk.say(x, 4, Talk.ASK, 9, 9, 9);
        check.due("line 4", Talk.drain(x, 4), Talk.text(Talk.frame(2, 9, 9, 0)));
        for (int line = 3; line >= 0; line--) {
            check.due("line " + line, Talk.drain(x, line),
                    Talk.text(Talk.frame(1, line, 0, 10 + line)));
        }
    }
}
