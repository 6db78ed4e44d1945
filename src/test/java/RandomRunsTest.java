import java.util.ArrayDeque;
import java.util.Random;

/** Runs of 512 random calls answer as those of the plain model; no call ever throws. */
public final class RandomRunsTest {
    private static final int RUNS = 20000;
    private static final int CALLS = 512;
    private static final int[] EDGES = {Integer.MIN_VALUE, -3, -2, -1, 0, 1, 2, 3, 4, 5, 6, 7, 8,
        9, 20, 24, 60, 100, 101, 126, 127, 128, 255, 256, 300, 1000, 1001, Integer.MAX_VALUE};

    private final Random random;
    private final FederationWire real = new FederationWire();
    private final PlainModel model = new PlainModel();
    private final StringBuilder told = new StringBuilder();
    /** Bytes that are still to come on a line, so that whole frames come more often than not. */
    private final ArrayDeque<Integer> coming = new ArrayDeque<>();
    private int comingLine = 0;
    private final int wildness;
    private final int keys;
    private final int houses;

    private RandomRunsTest(int seed) {
        random = new Random(seed);
        wildness = random.nextInt(8);
        keys = 1 + random.nextInt(12);
        houses = 1 + random.nextInt(4);
    }

    public static void main(String[] args) {
        Check check = new Check("Random runs (all promises)");
        for (int run = 0; run < RUNS; run++) {
            new RandomRunsTest(run).go(check, run);
        }
        check.end();
    }

    private void go(Check check, int run) {
        for (int call = 0; call < CALLS; call++) {
            told.setLength(0);
            long due;
            long got;
            try {
                long both = step();
                got = both >> 32;
                due = (int) both;
            } catch (RuntimeException thrown) {
                check.fault("run " + run + ", call " + call + ": " + told + " threw " + thrown);
                return;
            }
            check.due("run " + run + ", call " + call + ": " + told, got, due);
            if (got != due) {
                return;
            }
        }
    }

    private static long both(int got, int due) {
        return ((long) got << 32) | (due & 0xffffffffL);
    }

    /** An argument of 0 .. most, or now and then any edge. */
    private int pick(int most) {
        int v = random.nextInt(40) < wildness ? EDGES[random.nextInt(EDGES.length)]
                : random.nextInt(most + 1);
        told.append(' ').append(v);
        return v;
    }

    private long step() {
        if (!coming.isEmpty() && random.nextInt(12) != 0) {
            byte b = (byte) (int) coming.poll();
            told.append("octet ").append(comingLine).append(' ').append(b);
            return both(real.octet(comingLine, b), model.octet(comingLine, b));
        }
        int kind = random.nextInt(100);
        if (kind < 45) {
            return change(kind);
        }
        return kind < 62 ? traffic(kind) : look(kind);
    }

    private long change(int kind) {
        if (kind < 4) {
            told.append("up");
            int line = pick(houses - 1);
            return both(real.up(line), model.up(line));
        }
        if (kind < 5) {
            told.append("down");
            int line = pick(houses - 1);
            return both(real.down(line), model.down(line));
        }
        if (kind < 7) {
            told.append("setting");
            int what = pick(2);
            int v = pick(what == 0 ? 8 : what == 1 ? 30 : 5);
            return both(real.setting(what, v), model.setting(what, v));
        }
        if (kind < 22) {
            told.append("bind");
            int key = pick(keys);
            int tag = pick(1000);
            return both(real.bind(key, tag), model.bind(key, tag));
        }
        if (kind < 27) {
            told.append("ask");
            int house = pick(houses - 1);
            boolean silent = random.nextBoolean();
            return both(real.ask(house, silent), model.ask(house, silent));
        }
        if (kind < 42) {
            told.append("fact");
            int key = pick(keys);
            int value = pick(255);
            return both(real.fact(key, value), model.fact(key, value));
        }
        told.append("tick");
        int seconds = pick(random.nextInt(4) == 0 ? 60 : 9);
        return both(real.tick(seconds), model.tick(seconds));
    }

    private long traffic(int kind) {
        if (kind < 53) {
            told.append("loop");
            int line = pick(houses - 1);
            int n = pick(random.nextInt(4) == 0 ? 9 : 300);
            return both(real.loop(line, n), model.loop(line, n));
        }
        if (kind < 55) {
            told.append("out");
            int line = pick(4);
            return both(real.out(line), model.out(line));
        }
        if (kind < 56 && wildness > 4) {
            told.append("octet");
            int line = pick(4);
            byte b = (byte) pick(255);
            return both(real.octet(line, b), model.octet(line, b));
        }
        plan();
        told.append("line");
        return both(real.line(comingLine, 2), model.line(comingLine, 2));
    }

    /** A frame that a house or a house's request could send, or one that is nearly so. */
    private void plan() {
        coming.clear();
        boolean serving = random.nextInt(5) < 2;
        int number = random.nextInt(serving ? 11 : Math.max(1, model.count(0)));
        comingLine = serving ? 4 : Math.max(0, model.told(number, 0));
        int kind = serving ? (random.nextBoolean() ? 1 : 3)
                : (random.nextInt(6) == 0 ? 4 : 2);
        if (random.nextInt(12) == 0) {
            kind = 1 + random.nextInt(4);
        }
        int step = serving ? random.nextInt(4) - 1 : model.told(number, 5);
        step = step + (random.nextInt(8) == 0 ? random.nextInt(3) - 1 : 0) & 255;
        int size = kind == 1 ? 2 + random.nextInt(3) : kind == 2 ? 2 + 2 * random.nextInt(9)
                : kind == 3 ? 2 : 1;
        int[] body = new int[size];
        body[0] = step;
        for (int i = 1; i < size; i++) {
            body[i] = random.nextInt(keys + 1);
        }
        if (kind == 2) {
            body[1] = random.nextInt(wildness == 7 ? 3 : 2);
        }
        if (kind == 3) {
            body[1] = random.nextInt(3) * 8 + random.nextInt(2);
        }
        int[] bytes = Talk.frame(kind, number, body);
        if (random.nextInt(60) < wildness) {
            bytes[random.nextInt(bytes.length)] ^= 1 << random.nextInt(8);
        }
        for (int b : bytes) {
            coming.add(b);
        }
    }

    private long look(int kind) {
        int latest = Math.max(0, model.count(0) - 1);
        if (kind < 76) {
            told.append("told");
            int request = pick(latest);
            int what = pick(7);
            return both(real.told(request, what), model.told(request, what));
        }
        if (kind < 80) {
            told.append("row");
            int request = pick(latest);
            int i = pick(20);
            int what = pick(1);
            return both(real.row(request, i, what), model.row(request, i, what));
        }
        if (kind < 86) {
            told.append("joined");
            int request = pick(latest);
            int i = pick(20);
            int what = pick(1);
            return both(real.joined(request, i, what), model.joined(request, i, what));
        }
        if (kind < 90) {
            told.append("estimate");
            int house = pick(houses - 1);
            return both(real.estimate(house), model.estimate(house));
        }
        if (kind < 96) {
            told.append("count");
            int what = pick(7);
            return both(real.count(what), model.count(what));
        }
        told.append("line");
        int line = pick(4);
        int what = pick(2);
        return both(real.line(line, what), model.line(line, what));
    }
}
