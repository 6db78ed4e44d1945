/** Frames as the tests write and read them. */
final class Talk {
    static final int ASK = 1;
    static final int ROWS = 2;
    static final int MORE = 3;
    static final int CANT = 4;

    private Talk() { }

    static int[] frame(int kind, int number, int... body) {
        int[] bytes = new int[body.length + 5];
        bytes[0] = 126;
        bytes[1] = kind;
        bytes[2] = number;
        bytes[3] = body.length;
        int sum = kind ^ number ^ body.length;
        for (int i = 0; i < body.length; i++) {
            bytes[4 + i] = body[i];
            sum ^= body[i];
        }
        bytes[4 + body.length] = sum;
        return bytes;
    }

    /**
     * All bytes come on the line, up to the first answer that is not 0: that answer, made unlike
     * any other when it came before the last byte.
     */
    static int feed(FederationWire x, int line, int... bytes) {
        int answer = 0;
        for (int i = 0; i < bytes.length && answer == 0; i++) {
            answer = x.octet(line, (byte) bytes[i]);
            if (answer != 0 && i + 1 < bytes.length) {
                return answer - 1000 * (i + 1);
            }
        }
        return answer;
    }

    static int say(FederationWire x, int line, int kind, int number, int... body) {
        return feed(x, line, frame(kind, number, body));
    }

    /** The bytes of a line's out row, all taken, as a text. */
    static String drain(FederationWire x, int line) {
        StringBuilder text = new StringBuilder();
        int b = x.out(line);
        for (int taken = 0; b >= 0 && taken <= 300; taken++) {
            text.append(text.length() == 0 ? "" : " ").append(b);
            b = x.out(line);
        }
        return text.toString();
    }

    static void take(FederationWire x, int line, int bytes) {
        for (int i = 0; i < bytes; i++) {
            x.out(line);
        }
    }

    /** What the serving end answers to a frame, its out row being empty before. */
    static String answer(FederationWire x, int kind, int number, int... body) {
        say(x, 4, kind, number, body);
        return drain(x, 4);
    }

    /** The latest frames of those who wait on a line, which goes down and comes up for that. */
    static String latest(FederationWire x, int line) {
        x.down(line);
        x.up(line);
        return drain(x, line);
    }

    static String text(int[]... frames) {
        StringBuilder text = new StringBuilder();
        for (int[] frame : frames) {
            for (int b : frame) {
                text.append(text.length() == 0 ? "" : " ").append(b);
            }
        }
        return text.toString();
    }

    static String told(FederationWire x, int request) {
        StringBuilder text = new StringBuilder();
        for (int what = 0; what < 8; what++) {
            text.append(what == 0 ? "" : " ").append(x.told(request, what));
        }
        return text.toString();
    }

    static String counts(FederationWire x) {
        StringBuilder text = new StringBuilder();
        for (int what = 0; what < 8; what++) {
            text.append(what == 0 ? "" : " ").append(x.count(what));
        }
        return text.toString();
    }

    static String rows(FederationWire x, int request) {
        StringBuilder text = new StringBuilder();
        for (int i = 0; i <= 60 && x.row(request, i, 0) >= 0; i++) {
            text.append(i == 0 ? "" : " ").append(x.row(request, i, 0))
                .append(':').append(x.row(request, i, 1));
        }
        return text.toString();
    }

    static String joined(FederationWire x, int request) {
        StringBuilder text = new StringBuilder();
        for (int i = 0; i < x.told(request, 4); i++) {
            text.append(i == 0 ? "" : " ").append(x.joined(request, i, 0))
                .append(':').append(x.joined(request, i, 1));
        }
        return text.toString();
    }

    /** A new object with this request, whose first frame went out on a line that is up. */
    static FederationWire asked(int house, boolean silent, int... keys) {
        FederationWire x = new FederationWire();
        x.up(house);
        bindAll(x, keys);
        x.ask(house, silent);
        return x;
    }

    /** A new object with a line that is up and BULK 8, so that an ASK may have up to 14 bytes. */
    static FederationWire wide(int line) {
        FederationWire x = new FederationWire();
        x.setting(0, 8);
        x.up(line);
        return x;
    }

    static void bindAll(FederationWire x, int... keys) {
        for (int i = 0; i < keys.length; i++) {
            x.bind(keys[i], 100 + i);
        }
    }

    /** A request for the keys 1, 2, .. up to so many: with BULK 8, an ASK of 6 bytes and these. */
    static int askFor(FederationWire x, int house, int many) {
        for (int key = 1; key <= many; key++) {
            x.bind(key, 100 + key);
        }
        return x.ask(house, false);
    }

    static void askForEight(FederationWire x, int house, int requests) {
        for (int i = 0; i < requests; i++) {
            askFor(x, house, 8);
        }
    }

    static int[] keysUpTo(int first, int last) {
        int[] keys = new int[last - first + 1];
        for (int i = 0; i < keys.length; i++) {
            keys[i] = first + i;
        }
        return keys;
    }

    /** The bytes of an ASK or a CAN'T behind its length. */
    static int[] behindStep(int step, int... others) {
        int[] body = new int[others.length + 1];
        body[0] = step;
        System.arraycopy(others, 0, body, 1, others.length);
        return body;
    }

    /** So many facts with one key and the values 0, 1, .. */
    static void facts(FederationWire x, int key, int many) {
        for (int i = 0; i < many; i++) {
            x.fact(key, i);
        }
    }

    /** The body of ROWS with one key and values from a first one on. */
    static int[] rowsBody(int step, int more, int key, int firstValue, int many) {
        int[] body = new int[2 + 2 * many];
        body[0] = step;
        body[1] = more;
        for (int i = 0; i < many; i++) {
            body[2 + 2 * i] = key;
            body[3 + 2 * i] = firstValue + i;
        }
        return body;
    }

    static String rowsFrame(int number, int step, int more, int key, int firstValue, int many) {
        return text(frame(ROWS, number, rowsBody(step, more, key, firstValue, many)));
    }
}
