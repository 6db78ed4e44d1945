import java.util.ArrayDeque;
import java.util.ArrayList;
import java.util.Arrays;
import java.util.LinkedHashMap;
import java.util.LinkedHashSet;
import java.util.List;
import java.util.Map;

/** A second writing of the document, with the Java library and without care for speed. */
final class PlainModel {
    private static final class Asked {
        int house;
        boolean silent;
        List<int[]> bindings;
        List<List<Integer>> parts = new ArrayList<>();
        int keyCount;
        int part = 0;
        int cameOfPart = 0;
        List<int[]> rows = new ArrayList<>();
        String state = "waits";
        int why = 0;
        int steps = 0;
        int repeated = 0;
        int sent = 0;
        List<Integer> frame;

        boolean waits() {
            return state.equals("waits");
        }
    }

    private static final class Served {
        int askStep;
        int lastStep;
        List<int[]> rows = new ArrayList<>();
    }

    private final boolean[] up = {false, false, false, false, true};
    private final List<ArrayDeque<Integer>> outs = new ArrayList<>();
    private final List<List<Integer>> opens = new ArrayList<>();
    private final List<Asked> requests = new ArrayList<>();
    private List<int[]> bindings = new ArrayList<>();
    private final List<int[]> facts = new ArrayList<>();
    private final Map<Integer, Served> served = new LinkedHashMap<>();
    private final Integer[] estimates = new Integer[4];
    private final int[] settings = {4, 10, 2};
    private int clock = 0;
    private int dropped = 0;
    private int lost = 0;
    private int repeats = 0;

    PlainModel() {
        for (int i = 0; i < 5; i++) {
            outs.add(new ArrayDeque<>());
            opens.add(new ArrayList<>());
        }
    }

    private static boolean outside(int v, int least, int most) {
        return v < least || v > most;
    }

    int up(int line) {
        if (outside(line, 0, 3)) return -1;
        if (up[line]) return -2;
        up[line] = true;
        int lostBefore = lost;
        int all = 0;
        for (Asked asked : requests) {
            if (asked.waits() && asked.house == line) {
                all++;
                firstSending(asked);
            }
        }
        return all - (lost - lostBefore);
    }

    int down(int line) {
        if (outside(line, 0, 3)) return -1;
        if (!up[line]) return -2;
        end(line);
        return 1;
    }

    private void end(int line) {
        up[line] = false;
        outs.get(line).clear();
        opens.get(line).clear();
    }

    int setting(int what, int v) {
        int[] least = {1, 1, 0};
        int[] most = {8, 100, 5};
        if (outside(what, 0, 2) || outside(v, least[what], most[what])) return -1;
        int was = settings[what];
        settings[what] = v;
        return was;
    }

    int bind(int key, int tag) {
        if (outside(key, 0, 255)) return -1;
        if (bindings.size() == 20) return -3;
        bindings.add(new int[] {key, tag});
        return bindings.size();
    }

    int ask(int house, boolean silent) {
        if (outside(house, 0, 3)) return -1;
        if (requests.size() == 24) return -3;
        Asked asked = new Asked();
        asked.house = house;
        asked.silent = silent;
        asked.bindings = bindings;
        bindings = new ArrayList<>();
        LinkedHashSet<Integer> keys = new LinkedHashSet<>();
        for (int[] binding : asked.bindings) {
            keys.add(binding[0]);
        }
        asked.keyCount = keys.size();
        for (int key : keys) {
            int last = asked.parts.size() - 1;
            if (last < 0 || asked.parts.get(last).size() == settings[0]) {
                asked.parts.add(new ArrayList<>());
                last++;
            }
            asked.parts.get(last).add(key);
        }
        requests.add(asked);
        if (asked.keyCount == 0) {
            asked.state = "done";
        } else {
            sendPart(asked);
        }
        return requests.size() - 1;
    }

    private void sendPart(Asked asked) {
        List<Integer> body = new ArrayList<>(asked.parts.get(asked.part));
        body.add(0, asked.steps % 256);
        asked.steps++;
        asked.cameOfPart = 0;
        asked.frame = frame(1, requests.indexOf(asked), body);
        firstSending(asked);
    }

    private void firstSending(Asked asked) {
        asked.repeated = 0;
        asked.sent = clock;
        send(asked.house, asked.frame);
    }

    private static List<Integer> frame(int kind, int number, List<Integer> body) {
        List<Integer> bytes = new ArrayList<>(Arrays.asList(kind, number, body.size()));
        bytes.addAll(body);
        int sum = 0;
        for (int b : bytes) {
            sum ^= b;
        }
        bytes.add(sum);
        bytes.add(0, 126);
        return bytes;
    }

    private void send(int line, List<Integer> bytes) {
        if (up[line] && outs.get(line).size() + bytes.size() <= 300) {
            outs.get(line).addAll(bytes);
        } else {
            lost++;
        }
    }

    int octet(int line, byte b) {
        if (outside(line, 0, 4)) return -1;
        if (!up[line]) return -2;
        List<Integer> open = opens.get(line);
        open.add(Byte.toUnsignedInt(b));
        if (isWrong(open)) {
            open.clear();
            if (line < 4) {
                end(line);
            }
            return -10;
        }
        if (open.size() < 4 || open.size() < open.get(3) + 5) return 0;
        List<Integer> whole = new ArrayList<>(open);
        open.clear();
        int kind = whole.get(1);
        List<Integer> body = whole.subList(4, whole.size() - 1);
        boolean used = line == 4 ? served(kind, whole.get(2), body)
                : heard(line, kind, whole.get(2), body);
        if (!used) {
            dropped++;
        }
        return used ? kind : kind + 10;
    }

    /** Whether the last of the bytes of a frame, of which the others were right, is wrong. */
    private static boolean isWrong(List<Integer> open) {
        int size = open.size();
        int latest = open.get(size - 1);
        if (size == 1) return latest != 126;
        int kind = open.get(1);
        if (size == 2) return outside(kind, 1, 4);
        if (size == 3) return false;
        int length = open.get(3);
        if (size == 4) {
            List<Integer> can = List.of(2);
            if (kind == 1) can = List.of(2, 3, 4, 5, 6, 7, 8, 9);
            if (kind == 2) can = List.of(2, 4, 6, 8, 10, 12, 14, 16, 18);
            if (kind == 4) can = List.of(1);
            return !can.contains(length);
        }
        if (size == length + 5) {
            int all = 0;
            for (int b : open.subList(1, size)) {
                all ^= b;
            }
            return all != 0;
        }
        return size == 6 && kind == 2 && latest > 1;
    }

    private boolean heard(int line, int kind, int number, List<Integer> body) {
        if (kind == 1 || kind == 3 || number >= requests.size()) return false;
        Asked asked = requests.get(number);
        if (!asked.waits() || asked.house != line || body.get(0) != (asked.steps - 1) % 256) {
            return false;
        }
        if (kind == 4) {
            fail(asked, 3);
            return true;
        }
        for (int i = 2; i < body.size(); i += 2) {
            asked.cameOfPart++;
            if (asked.rows.size() < 60) {
                asked.rows.add(new int[] {body.get(i), body.get(i + 1)});
            }
        }
        if (body.get(1) == 1) {
            asked.frame = frame(3, number,
                    Arrays.asList(asked.steps % 256, asked.cameOfPart % 256));
            asked.steps++;
            firstSending(asked);
        } else if (asked.part + 1 < asked.parts.size()) {
            asked.part++;
            sendPart(asked);
        } else {
            asked.state = "done";
            int latest = (int) Math.floor(1000.0 * asked.rows.size() / asked.keyCount);
            Integer was = estimates[line];
            estimates[line] = was == null ? latest : (was + latest) / 2;
        }
        return true;
    }

    private void fail(Asked asked, int why) {
        asked.why = why;
        asked.state = asked.silent ? "done" : "failed";
        if (asked.silent) {
            asked.rows.clear();
        }
    }

    private boolean served(int kind, int number, List<Integer> body) {
        if (kind == 2 || kind == 4) return false;
        int step = body.get(0);
        Served memory = served.get(number);
        if (kind == 1) {
            if (memory != null && memory.askStep == step) {
                repeats++;
            } else {
                memory = serveAnew(number, body);
            }
            answer(number, memory, step, 0);
            return true;
        }
        int first = body.get(1);
        boolean can = memory != null && memory.rows.size() >= first
                && (step == memory.lastStep || step == (memory.lastStep + 1) % 256);
        if (can) {
            memory.lastStep = step;
            answer(number, memory, step, first);
        } else {
            send(4, frame(4, number, List.of(step)));
        }
        return true;
    }

    private Served serveAnew(int number, List<Integer> body) {
        Served memory = new Served();
        memory.askStep = body.get(0);
        memory.lastStep = body.get(0);
        for (int key : body.subList(1, body.size())) {
            for (int[] fact : facts) {
                if (fact[0] == key && memory.rows.size() < 60) {
                    memory.rows.add(fact);
                }
            }
        }
        served.remove(number);
        served.put(number, memory);
        if (served.size() > 8) {
            served.remove(served.keySet().iterator().next());
        }
        return memory;
    }

    private void answer(int number, Served memory, int step, int first) {
        List<Integer> body = new ArrayList<>();
        body.add(step);
        body.add(memory.rows.size() > first + 8 ? 1 : 0);
        for (int i = first; i < first + 8 && i < memory.rows.size(); i++) {
            body.add(memory.rows.get(i)[0]);
            body.add(memory.rows.get(i)[1]);
        }
        send(4, frame(2, number, body));
    }

    int out(int line) {
        if (outside(line, 0, 4)) return -1;
        return outs.get(line).isEmpty() ? -2 : outs.get(line).poll();
    }

    int loop(int line, int n) {
        if (outside(line, 0, 3) || n < 0) return -1;
        if (!up[line]) return -2;
        for (int i = 0; i < n && !outs.get(line).isEmpty(); i++) {
            octet(4, outs.get(line).poll().byteValue());
        }
        int came = 0;
        while (!outs.get(4).isEmpty() && up[line]) {
            octet(line, outs.get(4).poll().byteValue());
            came++;
        }
        outs.get(4).clear();
        return came;
    }

    int tick(int seconds) {
        if (outside(seconds, 0, 1000)) return -1;
        int failures = 0;
        for (int i = 0; i < seconds; i++) {
            clock++;
            for (Asked asked : requests) {
                if (!asked.waits() || clock < asked.sent + settings[1]) continue;
                if (asked.repeated >= settings[2]) {
                    fail(asked, 1);
                    failures++;
                } else {
                    asked.repeated++;
                    asked.sent = clock;
                    send(asked.house, asked.frame);
                }
            }
        }
        return failures;
    }

    private List<int[]> joinedRows(Asked asked) {
        List<int[]> all = new ArrayList<>();
        if (!asked.state.equals("done")) return all;
        for (int[] binding : asked.bindings) {
            if (asked.why != 0) {
                all.add(new int[] {binding[1], -1});
            }
            for (int[] row : asked.rows) {
                if (row[0] == binding[0]) {
                    all.add(new int[] {binding[1], row[1]});
                }
            }
        }
        return all;
    }

    int told(int request, int what) {
        if (outside(request, 0, requests.size() - 1) || outside(what, 0, 7)) return -1;
        Asked asked = requests.get(request);
        int[] all = {asked.house, List.of("waits", "done", "failed").indexOf(asked.state),
            asked.why, asked.rows.size(), joinedRows(asked).size(),
            asked.steps == 0 ? -1 : (asked.steps - 1) % 256, asked.repeated, asked.keyCount};
        return all[what];
    }

    private static int part(List<int[]> rows, int i, int what) {
        return outside(i, 0, rows.size() - 1) ? -2 : rows.get(i)[what];
    }

    int row(int request, int i, int what) {
        if (outside(request, 0, requests.size() - 1) || outside(what, 0, 1)) return -1;
        return part(requests.get(request).rows, i, what);
    }

    int joined(int request, int i, int what) {
        if (outside(request, 0, requests.size() - 1) || outside(what, 0, 1)) return -1;
        return part(joinedRows(requests.get(request)), i, what);
    }

    int estimate(int house) {
        if (outside(house, 0, 3)) return -1;
        return estimates[house] == null ? 1000 : estimates[house];
    }

    int fact(int key, int value) {
        if (outside(key, 0, 255) || outside(value, 0, 255)) return -1;
        if (facts.size() == 60) return -3;
        facts.add(new int[] {key, value});
        return facts.size();
    }

    int count(int what) {
        if (outside(what, 0, 7)) return -1;
        int[] all = {requests.size(), facts.size(), bindings.size(), clock, dropped, lost,
            repeats, served.size()};
        return all[what];
    }

    int line(int line, int what) {
        if (outside(line, 0, 4) || outside(what, 0, 2)) return -1;
        int[] all = {up[line] ? 1 : 0, outs.get(line).size(), opens.get(line).size()};
        return all[what];
    }
}
