/** Requests to other houses over lines of bytes, and our own serving end: see README.md. */
public final class FederationWire {
    public static final int BAD = -1;
    public static final int NO = -2;
    public static final int FULL = -3;

    private static final int HOUSES = 4;
    private static final int SERVING_LINE = 4;
    private static final int LINES = 5;
    private static final int OUT_LIMIT = 300;

    private static final int START = 126;
    private static final int ASK = 1;
    private static final int ROWS = 2;
    private static final int MORE = 3;
    private static final int CANT = 4;
    private static final int HEAD_LENGTH = 4;
    private static final int BODY_LIMIT = 18;
    private static final int ROWS_A_FRAME = 8;

    private static final int FRAME_OPEN = 0;
    private static final int FRAME_WHOLE = 1;
    private static final int FRAME_WRONG = -10;
    private static final int DROPPED = 10;

    private static final int REQUEST_LIMIT = 24;
    private static final int BINDING_LIMIT = 20;
    private static final int ROW_LIMIT = 60;
    private static final int FACT_LIMIT = 60;
    private static final int MEMORY_LIMIT = 8;

    private static final int WAITS = 0;
    private static final int DONE = 1;
    private static final int FAILED = 2;
    private static final int NO_PATIENCE = 1;
    private static final int TOLD_CANT = 3;

    private static final int SECONDS_LIMIT = 1000;
    private static final int FIRST_ESTIMATE = 1000;
    private static final int SILENT_VALUE = -1;

    private final Wire[] wires = new Wire[LINES];
    private final Request[] requests = new Request[REQUEST_LIMIT];
    private int requestCount = 0;
    private final Pairs nextBindings = new Pairs(BINDING_LIMIT);
    private final ServingEnd servingEnd = new ServingEnd();
    private final int[] estimates = new int[HOUSES];
    private final boolean[] estimated = new boolean[HOUSES];
    private int bulk = 4;
    private int patience = 10;
    private int retries = 2;
    private int clock = 0;
    private int dropped = 0;
    private int lost = 0;

    public FederationWire() {
        for (int i = 0; i < LINES; i++) {
            wires[i] = new Wire(i == SERVING_LINE);
        }
        for (int i = 0; i < HOUSES; i++) {
            estimates[i] = FIRST_ESTIMATE;
        }
    }

    public int up(int line) {
        Wire wire = houseWire(line);
        if (wire == null) {
            return BAD;
        }
        if (wire.live) {
            return NO;
        }
        wire.live = true;
        int went = 0;
        for (int i = 0; i < requestCount; i++) {
            Request request = requestAt(i);
            if (request != null && request.house == line && request.state == WAITS
                    && sendFirst(request, wire)) {
                went++;
            }
        }
        return went;
    }

    public int down(int line) {
        Wire wire = houseWire(line);
        if (wire == null) {
            return BAD;
        }
        if (!wire.live) {
            return NO;
        }
        wire.end();
        return 1;
    }

    public int setting(int what, int v) {
        int was;
        if (what == 0 && v >= 1 && v <= 8) {
            was = bulk;
            bulk = v;
        } else if (what == 1 && v >= 1 && v <= 100) {
            was = patience;
            patience = v;
        } else if (what == 2 && v >= 0 && v <= 5) {
            was = retries;
            retries = v;
        } else {
            was = BAD;
        }
        return was;
    }

    public int bind(int key, int tag) {
        if (!isByte(key)) {
            return BAD;
        }
        return nextBindings.add(key, tag) ? nextBindings.size : FULL;
    }

    public int ask(int house, boolean silent) {
        Wire wire = houseWire(house);
        if (wire == null) {
            return BAD;
        }
        int number = requestCount;
        if (number < 0 || number >= requests.length) {
            return FULL;
        }
        Request request = new Request(number, house, silent, bulk, nextBindings);
        nextBindings.clear();
        requests[number] = request;
        requestCount++;
        if (request.hasKeysLeft()) {
            request.writeAsk();
            sendFirst(request, wire);
        } else {
            request.state = DONE;
        }
        return number;
    }

    public int octet(int line, byte b) {
        Wire wire = wireAt(line);
        if (wire == null) {
            return BAD;
        }
        if (!wire.live) {
            return NO;
        }
        return take(line, wire, b & 255);
    }

    public int out(int line) {
        Wire wire = wireAt(line);
        return wire == null ? BAD : wire.takeFirst();
    }

    public int loop(int line, int n) {
        Wire wire = houseWire(line);
        Wire serving = wireAt(SERVING_LINE);
        if (wire == null || serving == null || n < 0) {
            return BAD;
        }
        if (!wire.live) {
            return NO;
        }
        int there = Math.min(n, wire.outSize);
        for (int i = 0; i < there; i++) {
            take(SERVING_LINE, serving, wire.takeFirst());
        }
        int back = serving.outSize;
        int came = 0;
        while (came < back && wire.live) {
            take(line, wire, serving.takeFirst());
            came++;
        }
        serving.clearOut();
        return came;
    }

    public int tick(int seconds) {
        if (seconds < 0 || seconds > SECONDS_LIMIT) {
            return BAD;
        }
        int failures = 0;
        int due = earliestDue();
        for (int i = 0; i < seconds; i++) {
            clock++;
            if (clock >= due) {
                failures += settleDue();
                due = earliestDue();
            }
        }
        return failures;
    }

    public int told(int request, int what) {
        Request asked = requestAt(request);
        if (asked == null) {
            return BAD;
        }
        switch (what) {
            case 0: return asked.house;
            case 1: return asked.state;
            case 2: return asked.why;
            case 3: return asked.rows.size;
            case 4: return asked.joinedSize();
            case 5: return asked.step;
            case 6: return asked.repeats;
            case 7: return asked.keyCount;
            default: return BAD;
        }
    }

    public int row(int request, int i, int what) {
        Request asked = requestAt(request);
        if (asked == null || what < 0 || what > 1) {
            return BAD;
        }
        if (i < 0 || i >= asked.rows.size) {
            return NO;
        }
        return what == 0 ? asked.rows.keyAt(i) : asked.rows.valueAt(i);
    }

    public int joined(int request, int i, int what) {
        Request asked = requestAt(request);
        if (asked == null || what < 0 || what > 1) {
            return BAD;
        }
        if (i < 0 || asked.state != DONE) {
            return NO;
        }
        return asked.joinedPart(i, what == 0);
    }

    public int estimate(int house) {
        if (house < 0 || house >= estimates.length) {
            return BAD;
        }
        return estimates[house];
    }

    public int fact(int key, int value) {
        if (!isByte(key) || !isByte(value)) {
            return BAD;
        }
        return servingEnd.facts.add(key, value) ? servingEnd.facts.size : FULL;
    }

    public int count(int what) {
        switch (what) {
            case 0: return requestCount;
            case 1: return servingEnd.facts.size;
            case 2: return nextBindings.size;
            case 3: return clock;
            case 4: return dropped;
            case 5: return lost;
            case 6: return servingEnd.repeats;
            case 7: return servingEnd.remembered;
            default: return BAD;
        }
    }

    public int line(int line, int what) {
        Wire wire = wireAt(line);
        if (wire == null) {
            return BAD;
        }
        switch (what) {
            case 0: return wire.live ? 1 : 0;
            case 1: return wire.outSize;
            case 2: return wire.came;
            default: return BAD;
        }
    }

    private static boolean isByte(int v) {
        return v >= 0 && v <= 255;
    }

    private Wire wireAt(int at) {
        return at >= 0 && at < wires.length ? wires[at] : null;
    }

    private Wire houseWire(int house) {
        return house < HOUSES ? wireAt(house) : null;
    }

    private Request requestAt(int number) {
        return number >= 0 && number < requestCount && number < requests.length
                ? requests[number] : null;
    }

    private boolean send(Frame frame, Wire wire) {
        boolean went = wire.send(frame);
        if (!went) {
            lost++;
        }
        return went;
    }

    private boolean sendFirst(Request request, Wire wire) {
        request.sentAt = clock;
        request.repeats = 0;
        return send(request.latest, wire);
    }

    /** A byte comes on a line that is up: the answer of octet. */
    private int take(int at, Wire wire, int b) {
        int became = wire.accept(b);
        if (became == FRAME_WRONG) {
            if (at == SERVING_LINE) {
                wire.came = 0;
            } else {
                wire.end();
            }
        }
        if (became != FRAME_WHOLE) {
            return became;
        }
        Frame frame = wire.incoming;
        boolean used = at == SERVING_LINE ? serve(frame, wire) : hear(frame, at, wire);
        if (used) {
            return frame.kind;
        }
        dropped++;
        return frame.kind + DROPPED;
    }

    private boolean serve(Frame frame, Wire wire) {
        if (frame.kind == ASK) {
            servingEnd.answerAsk(frame);
        } else if (frame.kind == MORE) {
            servingEnd.answerMore(frame);
        } else {
            return false;
        }
        send(servingEnd.answer, wire);
        return true;
    }

    private boolean hear(Frame frame, int house, Wire wire) {
        Request request = requestAt(frame.number);
        if (request == null || !request.waitsFor(frame, house)) {
            return false;
        }
        if (frame.kind == CANT) {
            request.fail(TOLD_CANT);
            return true;
        }
        request.takeRows(frame);
        if (frame.byteAt(1) == 1) {
            request.writeMore();
            sendFirst(request, wire);
        } else if (request.hasKeysLeft()) {
            request.writeAsk();
            sendFirst(request, wire);
        } else {
            request.state = DONE;
            learn(request);
        }
        return true;
    }

    private void learn(Request request) {
        int house = request.house;
        if (request.keyCount <= 0 || house < 0
                || house >= estimates.length || house >= estimated.length) {
            return;
        }
        int latest = request.rows.size * 1000 / request.keyCount;
        estimates[house] = estimated[house] ? (estimates[house] + latest) / 2 : latest;
        estimated[house] = true;
    }

    /** The second in which the next request's patience ends, so that quiet seconds cost little. */
    private int earliestDue() {
        int due = Integer.MAX_VALUE;
        for (int i = 0; i < requestCount; i++) {
            Request request = requestAt(i);
            if (request != null && request.state == WAITS) {
                due = Math.min(due, request.sentAt + patience);
            }
        }
        return due;
    }

    private int settleDue() {
        int failures = 0;
        for (int i = 0; i < requestCount; i++) {
            Request request = requestAt(i);
            if (request == null || request.state != WAITS || clock - request.sentAt < patience) {
                continue;
            }
            if (request.repeats >= retries) {
                request.fail(NO_PATIENCE);
                failures++;
            } else {
                repeat(request);
            }
        }
        return failures;
    }

    private void repeat(Request request) {
        Wire wire = houseWire(request.house);
        if (wire == null) {
            return;
        }
        request.sentAt = clock;
        request.repeats++;
        send(request.latest, wire);
    }

    /** Keys with what belongs to them (tags or values), in the order in which they came. */
    private static final class Pairs {
        private final int[] keys;
        private final int[] values;
        private int size = 0;

        Pairs(int limit) {
            int length = Math.max(limit, 0);
            keys = new int[length];
            values = new int[length];
        }

        boolean add(int key, int value) {
            if (size < 0 || size >= keys.length || size >= values.length) {
                return false;
            }
            keys[size] = key;
            values[size] = value;
            size++;
            return true;
        }

        int keyAt(int i) {
            return i >= 0 && i < size && i < keys.length ? keys[i] : NO;
        }

        int valueAt(int i) {
            return i >= 0 && i < size && i < values.length ? values[i] : NO;
        }

        void clear() {
            size = 0;
        }
    }

    /** Kind, number and bytes of a frame; its start, length and sum follow from these. */
    private static final class Frame {
        private int kind = 0;
        private int number = 0;
        private int length = 0;
        private final int[] body = new int[BODY_LIMIT];

        void begin(int newKind, int newNumber) {
            kind = newKind;
            number = newNumber;
            length = 0;
        }

        void put(int b) {
            if (length >= 0 && length < body.length) {
                body[length] = b & 255;
                length++;
            }
        }

        int byteAt(int i) {
            return i >= 0 && i < length && i < body.length ? body[i] : 0;
        }

        int sum() {
            int sum = kind ^ number ^ length;
            for (int i = 0; i < length && i < body.length; i++) {
                sum ^= body[i];
            }
            return sum;
        }
    }

    /** A line: its out row (a ring) and the frame that is open on it. */
    private static final class Wire {
        private boolean live;
        private final int[] outRow = new int[OUT_LIMIT];
        private int outFirst = 0;
        private int outSize = 0;
        private final Frame incoming = new Frame();
        private int came = 0;
        private int announced = 0;

        Wire(boolean liveAtFirst) {
            live = liveAtFirst;
        }

        void end() {
            live = false;
            came = 0;
            clearOut();
        }

        void clearOut() {
            outFirst = 0;
            outSize = 0;
        }

        boolean send(Frame frame) {
            if (!live || outSize + HEAD_LENGTH + frame.length + 1 > OUT_LIMIT) {
                return false;
            }
            push(START);
            push(frame.kind);
            push(frame.number);
            push(frame.length);
            for (int i = 0; i < frame.length; i++) {
                push(frame.byteAt(i));
            }
            push(frame.sum());
            return true;
        }

        private void push(int b) {
            int at = (outFirst + outSize) % OUT_LIMIT;
            if (outSize < OUT_LIMIT && at >= 0 && at < outRow.length) {
                outRow[at] = b;
                outSize++;
            }
        }

        int takeFirst() {
            if (outSize <= 0 || outFirst < 0 || outFirst >= outRow.length) {
                return NO;
            }
            int first = outRow[outFirst];
            outFirst = (outFirst + 1) % OUT_LIMIT;
            outSize--;
            return first;
        }

        int accept(int b) {
            if (!suits(b)) {
                return FRAME_WRONG;
            }
            keep(b);
            came++;
            if (came <= HEAD_LENGTH + announced) {
                return FRAME_OPEN;
            }
            came = 0;
            return FRAME_WHOLE;
        }

        private boolean suits(int b) {
            switch (came) {
                case 0: return b == START;
                case 1: return b >= ASK && b <= CANT;
                case 2: return true;
                case 3: return lengthSuits(b);
                default: break;
            }
            if (came == HEAD_LENGTH + announced) {
                return b == incoming.sum();
            }
            return incoming.kind != ROWS || came != HEAD_LENGTH + 1 || b <= 1;
        }

        private boolean lengthSuits(int length) {
            switch (incoming.kind) {
                case ASK: return length >= 2 && length <= 9;
                case ROWS: return length >= 2 && length <= BODY_LIMIT && (length & 1) == 0;
                case MORE: return length == 2;
                case CANT: return length == 1;
                default: return false;
            }
        }

        private void keep(int b) {
            switch (came) {
                case 0:
                    announced = 0;
                    break;
                case 1:
                    incoming.begin(b, 0);
                    break;
                case 2:
                    incoming.number = b;
                    break;
                case 3:
                    announced = b;
                    break;
                default:
                    if (came < HEAD_LENGTH + announced) {
                        incoming.put(b);
                    }
                    break;
            }
        }
    }

    /** What was asked of a house, how far that came, and the frame that was sent last. */
    private static final class Request {
        private final int house;
        private final boolean silent;
        private final int partSize;
        private final Pairs bindings;
        private final int[] keys;
        private int keyCount = 0;
        private int keysAsked = 0;
        private final Pairs rows = new Pairs(ROW_LIMIT);
        private int rowsOfPart = 0;
        private final Frame latest = new Frame();
        private final int number;
        private int step = -1;
        private int sentAt = 0;
        private int repeats = 0;
        private int state = WAITS;
        private int why = 0;

        Request(int itsNumber, int itsHouse, boolean isSilent, int bulkNow, Pairs itsBindings) {
            number = itsNumber;
            house = itsHouse;
            silent = isSilent;
            partSize = bulkNow;
            bindings = new Pairs(itsBindings.size);
            keys = new int[Math.max(itsBindings.size, 0)];
            for (int i = 0; i < itsBindings.size; i++) {
                bindings.add(itsBindings.keyAt(i), itsBindings.valueAt(i));
                addKey(itsBindings.keyAt(i));
            }
        }

        private void addKey(int key) {
            for (int i = 0; i < keyCount && i < keys.length; i++) {
                if (keys[i] == key) {
                    return;
                }
            }
            if (keyCount >= 0 && keyCount < keys.length) {
                keys[keyCount] = key;
                keyCount++;
            }
        }

        boolean hasKeysLeft() {
            return keysAsked < keyCount;
        }

        void writeAsk() {
            nextStep(ASK);
            int end = Math.min(Math.min(keysAsked + partSize, keyCount), keys.length);
            for (int i = Math.max(keysAsked, 0); i < end; i++) {
                latest.put(keys[i]);
            }
            keysAsked = end;
            rowsOfPart = 0;
        }

        void writeMore() {
            nextStep(MORE);
            latest.put(rowsOfPart);
        }

        private void nextStep(int kind) {
            step = (step + 1) & 255;
            latest.begin(kind, number);
            latest.put(step);
        }

        boolean waitsFor(Frame frame, int line) {
            return state == WAITS && house == line && frame.byteAt(0) == step
                    && (frame.kind == ROWS || frame.kind == CANT);
        }

        void takeRows(Frame frame) {
            for (int i = 2; i + 1 < frame.length; i += 2) {
                rows.add(frame.byteAt(i), frame.byteAt(i + 1));
                // rows that are left out came all the same: the other end counts them, too
                rowsOfPart++;
            }
        }

        void fail(int reason) {
            why = reason;
            if (silent) {
                state = DONE;
                rows.clear();
            } else {
                state = FAILED;
            }
        }

        int joinedSize() {
            if (state != DONE) {
                return 0;
            }
            if (why != 0) {
                return bindings.size;
            }
            int size = 0;
            for (int b = 0; b < bindings.size; b++) {
                for (int r = 0; r < rows.size; r++) {
                    if (rows.keyAt(r) == bindings.keyAt(b)) {
                        size++;
                    }
                }
            }
            return size;
        }

        int joinedPart(int i, boolean tag) {
            if (why != 0) {
                return silentPart(i, tag);
            }
            int before = 0;
            for (int b = 0; b < bindings.size; b++) {
                for (int r = 0; r < rows.size; r++) {
                    if (rows.keyAt(r) != bindings.keyAt(b)) {
                        continue;
                    }
                    if (before == i) {
                        return tag ? bindings.valueAt(b) : rows.valueAt(r);
                    }
                    before++;
                }
            }
            return NO;
        }

        private int silentPart(int i, boolean tag) {
            if (i < 0 || i >= bindings.size) {
                return NO;
            }
            return tag ? bindings.valueAt(i) : SILENT_VALUE;
        }
    }

    /** The rows of an ASK that the serving end answered, as they were then. */
    private static final class Memory {
        private int number = 0;
        private int askStep = 0;
        private int latestStep = 0;
        private final Pairs rows = new Pairs(ROW_LIMIT);
    }

    /** Our own facts, and the answers to those who ask for them. */
    private static final class ServingEnd {
        private final Pairs facts = new Pairs(FACT_LIMIT);
        // what was asked longest ago stands first
        private final Memory[] memories = new Memory[MEMORY_LIMIT];
        private int remembered = 0;
        private int repeats = 0;
        private final Frame answer = new Frame();

        ServingEnd() {
            for (int i = 0; i < MEMORY_LIMIT; i++) {
                memories[i] = new Memory();
            }
        }

        void answerAsk(Frame frame) {
            Memory memory = memoryAt(placeOf(frame.number));
            if (memory != null && memory.askStep == frame.byteAt(0)) {
                repeats++;
            } else {
                memory = memoryFor(frame.number);
                remember(memory, frame);
            }
            writeRows(memory, frame.byteAt(0), 0);
        }

        void answerMore(Frame frame) {
            Memory memory = memoryAt(placeOf(frame.number));
            int step = frame.byteAt(0);
            int first = frame.byteAt(1);
            if (memory == null || first > memory.rows.size
                    || (step != memory.latestStep && step != ((memory.latestStep + 1) & 255))) {
                answer.begin(CANT, frame.number);
                answer.put(step);
                return;
            }
            memory.latestStep = step;
            writeRows(memory, step, first);
        }

        private Memory memoryAt(int place) {
            return place >= 0 && place < remembered && place < memories.length
                    ? memories[place] : null;
        }

        private int placeOf(int number) {
            for (int i = 0; i < remembered; i++) {
                Memory memory = memoryAt(i);
                if (memory != null && memory.number == number) {
                    return i;
                }
            }
            return NO;
        }

        /** The memory that a new asking of this number may use; it stands last from now on. */
        private Memory memoryFor(int number) {
            int place = placeOf(number);
            if (place < 0) {
                place = 0;
                if (remembered < MEMORY_LIMIT) {
                    place = remembered;
                    remembered++;
                }
            }
            Memory memory = memoryAt(place);
            for (int i = place; i + 1 < remembered && i + 1 < memories.length; i++) {
                memories[i] = memories[i + 1];
            }
            int last = remembered - 1;
            if (last >= 0 && last < memories.length) {
                memories[last] = memory;
            }
            return memory;
        }

        private void remember(Memory memory, Frame frame) {
            if (memory == null) {
                return;
            }
            memory.number = frame.number;
            memory.askStep = frame.byteAt(0);
            memory.latestStep = memory.askStep;
            memory.rows.clear();
            for (int i = 1; i < frame.length; i++) {
                for (int f = 0; f < facts.size; f++) {
                    if (facts.keyAt(f) == frame.byteAt(i)) {
                        memory.rows.add(facts.keyAt(f), facts.valueAt(f));
                    }
                }
            }
        }

        private void writeRows(Memory memory, int step, int first) {
            if (memory == null) {
                return;
            }
            int end = Math.min(first + ROWS_A_FRAME, memory.rows.size);
            answer.begin(ROWS, memory.number);
            answer.put(step);
            answer.put(end < memory.rows.size ? 1 : 0);
            for (int i = first; i < end; i++) {
                answer.put(memory.rows.keyAt(i));
                answer.put(memory.rows.valueAt(i));
            }
        }
    }
}
