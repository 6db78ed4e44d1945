/** Frames as the tests write and read them. */
final class Talk {
    static final int ASK = 1;
    static final int ROWS = 2;
    static final int MORE = 3;
    static final int CANT = 4;

    private Talk() { }

    static int[] frame(int kind, int number, int... body) {
        int[] bytes = new int[body.length + 5];
        bytes[0] = 126;
        bytes[1] = kind;
        bytes[2] = number;
        bytes[3] = body.length;
        int sum = kind ^ number ^ body.length;
        for (int i = 0; i < body.length; i++) {
            bytes[4 + i] = body[i];
            sum ^= body[i];
        }
        bytes[4 + body.length] = sum;
        return bytes;
    }

    /** All bytes come on the line, up to the first answer that is not 0: that answer. */
    static int feed(FederationWire x, int line, int... bytes) {
        int answer = 0;
        for (int i = 0; i < bytes.length && answer == 0; i++) {
            answer = x.octet(line, (byte) bytes[i]);
            if (answer != 0 && i + 1 < bytes.length) {
                return answer - 1000 * (i + 1);
            }
        }
        return answer;
    }

    static int say(FederationWire x, int line, int kind, int number, int... body) {
        return feed(x, line, frame(kind, number, body));
    }

    /** The bytes of a line's out row, all taken, as a text. */
    static String drain(FederationWire x, int line) {
        StringBuilder text = new StringBuilder();
        for (int b = x.out(line); b >= 0; b = x.out(line)) {
            text.append(text.length() == 0 ? "" : " ").append(b);
        }
        return text.toString();
    }

    static String text(int[]... frames) {
        StringBuilder text = new StringBuilder();
        for (int[] frame : frames) {
            for (int b : frame) {
                text.append(text.length() == 0 ? "" : " ").append(b);
            }
        }
        return text.toString();
    }

    static String told(FederationWire x, int request) {
        StringBuilder text = new StringBuilder();
        for (int what = 0; what < 8; what++) {
            text.append(what == 0 ? "" : " ").append(x.told(request, what));
        }
        return text.toString();
    }

    static String rows(FederationWire x, int request) {
        StringBuilder text = new StringBuilder();
        for (int i = 0; x.row(request, i, 0) >= 0; i++) {
            text.append(i == 0 ? "" : " ").append(x.row(request, i, 0))
                .append(':').append(x.row(request, i, 1));
        }
        return text.toString();
    }

    /** A new object with this request, whose first frame went out on a line that is up. */
    static FederationWire asked(int house, boolean silent, int... keys) {
        FederationWire x = new FederationWire();
        x.up(house);
        bindAll(x, keys);
        x.ask(house, silent);
        return x;
    }

    static void bindAll(FederationWire x, int... keys) {
        for (int i = 0; i < keys.length; i++) {
            x.bind(keys[i], 100 + i);
        }
    }

    /** So many facts with one key and the values 0, 1, .. */
    static void facts(FederationWire x, int key, int many) {
        for (int i = 0; i < many; i++) {
            x.fact(key, i);
        }
    }

    /** The body of ROWS with one key and values from a first one on. */
    static int[] rowsBody(int step, int more, int key, int firstValue, int many) {
        int[] body = new int[2 + 2 * many];
        body[0] = step;
        body[1] = more;
        for (int i = 0; i < many; i++) {
            body[2 + 2 * i] = key;
            body[3 + 2 * i] = firstValue + i;
        }
        return body;
    }
}
