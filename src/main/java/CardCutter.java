import java.util.NoSuchElementException;

/** A card that cuts large sends into pieces, paces them by flow and lets them leave one wire. */
public final class CardCutter {
    public static final int NONE = -1;

    private static final int MOST_RING = 8;
    private static final int MOST_WIRE = 40;
    private static final int MOST_BATCH = 8;
    private static final int MOST_TIME = 9999;
    private static final int MOST_FLOWS = 6;
    private static final int MOST_RATE = 999;
    private static final int MOST_LENGTH = 200;
    private static final int LEAST_CUT = 10;
    private static final int MOST_CUT = 100;
    private static final int MOST_NUMBER = 9999;
    private static final int MOST_TICKS = 99;
    private static final int MOST_ACTS = 14;
    private static final int MOST_TAPE = 400;
    private static final int MOST_ROWS = 40;
    private static final int MOST_FINISHED = 20;
    private static final int MOST_REMEMBERED = 8;
    private static final int MOST_PIECES = MOST_LENGTH / LEAST_CUT;
    private static final int ALL_PIECES = MOST_RING * MOST_PIECES;
    private static final int HEAD = 12;
    private static final int SUM_WORD = 5;
    private static final int HEAD_WORDS = HEAD / 2;
    private static final int MOST_WORDS = (HEAD + MOST_CUT) / 2;

    private static final int POSTED = 0;
    private static final int SEEN = 1;
    private static final int DONE = 2;
    private static final int DROPPED = 3;

    private static final int NO_ROOM_FOR_FLOW = 1;
    private static final int NO_SUCH_FLOW = 2;
    private static final int RING_FULL = 3;
    private static final int NOT_DROPPABLE = 4;
    private static final int SO_ALREADY = 5;
    private static final int TIME_OVER = 6;

    private static final int ACT_CARD = 0;
    private static final int ACT_FLOW = 1;
    private static final int ACT_SEND = 2;
    private static final int ACT_BELL = 3;
    private static final int ACT_DROP = 4;
    private static final int ACT_PAUSE = 5;
    private static final int ACT_GO = 6;
    private static final int ACT_RATE = 7;
    private static final int ACT_TICK = 8;

    private final Card card = new Card();
    private final Card spare = new Card();
    private final Card kept = new Card();
    private final History history = new History();
    private final Paper paper = new Paper();
    private final Tape tape = new Tape();
    private final int[] numbers = new int[4];
    private final int[] words = new int[MOST_WORDS];
    private boolean hasImage = false;
    private int refusedBy = 0;
    private int wrongByte = NONE;

    public CardCutter() {
    }

    public int feed(int a, int b, int c, int d, int e) {
        if (!tape.hasRoom(20)) {
            return NONE;
        }
        tape.append(a);
        tape.append(b);
        tape.append(c);
        tape.append(d);
        tape.append(e);
        return tape.length;
    }

    public boolean end(int n) {
        if (n < 0 || n > tape.length) {
            return false;
        }
        tape.length = n;
        return true;
    }

    public int acts() throws IllegalArgumentException {
        spare.copyFrom(card);
        int acts = readActs();
        wrongByte = tape.wrong;
        tape.length = 0;
        if (acts == NONE) {
            card.copyFrom(spare);
            throw new IllegalArgumentException("the text is wrong");
        }
        history.forget();
        if (acts > 0) {
            refusedBy = 0;
        }
        return acts;
    }

    public int fault() {
        return wrongByte;
    }

    public int why() {
        return refusedBy;
    }

    public int send(int flow, int length, int cut, int at) throws IllegalArgumentException, IllegalStateException {
        if (!within(length, 1, MOST_LENGTH) || !within(cut, LEAST_CUT, MOST_CUT) || !within(at, 0, MOST_TIME)) {
            throw new IllegalArgumentException("no such length, cut or time");
        }
        startAct(card.whyNoSend(flow));
        return card.post(flow, length, cut, at);
    }

    public int bell() {
        startAct(0);
        return card.ringBell();
    }

    public int drop(int send) throws IllegalStateException {
        startAct(card.whyNoDrop(send));
        return card.dropSend(send);
    }

    public int pause(int flow, boolean go) throws IllegalStateException {
        startAct(card.whyNoPause(flow, !go));
        return card.setPaused(flow, !go);
    }

    public int rate(int flow, int rate) throws IllegalArgumentException, IllegalStateException {
        if (!within(rate, 0, MOST_RATE)) {
            throw new IllegalArgumentException("no such rate");
        }
        startAct(card.whyNoRate(flow));
        return card.setRate(flow, rate);
    }

    public int tick(int n) throws IllegalArgumentException, IllegalStateException {
        if (!within(n, 1, MOST_TICKS)) {
            throw new IllegalArgumentException("no such number of ticks");
        }
        startAct(card.whyNoTick());
        return card.runTicks(n);
    }

    public int undo() throws IllegalStateException {
        if (history.size == 0) {
            throw new IllegalStateException("nothing is remembered");
        }
        history.takeBack(card);
        return history.size;
    }

    public int told(int send, int what) throws IndexOutOfBoundsException, NoSuchElementException {
        Send s = card.knownSend(send);
        if (s == null) {
            throw new IndexOutOfBoundsException("no such send");
        }
        switch (what) {
            case 0: return s.flow;
            case 1: return s.length;
            case 2: return s.cut;
            case 3: return s.at;
            case 4: return s.state;
            case 5: return s.pieces;
            case 6: return s.seenAt;
            case 7: return s.doneAt;
            case 8: return s.place;
            default: throw new NoSuchElementException("no such thing of a send");
        }
    }

    public int piece(int send, int piece, int what) throws IndexOutOfBoundsException, NoSuchElementException {
        Send s = card.knownSend(send);
        if (s == null || !s.hasPiece(piece)) {
            throw new IndexOutOfBoundsException("no such piece");
        }
        int i = s.indexOf(piece);
        switch (what) {
            case 0: return s.sizeOf(piece);
            case 1: return card.depart[i];
            case 2: return card.left[i];
            case 3: return card.gone[i];
            case 4: return s.sumOf(piece);
            default: throw new NoSuchElementException("no such thing of a piece");
        }
    }

    public int octet(int send, int piece, int k) throws IndexOutOfBoundsException {
        Send s = card.knownSend(send);
        if (s == null || !s.hasOctet(piece, k)) {
            throw new IndexOutOfBoundsException("no such byte of a piece");
        }
        return s.octetOf(piece, k);
    }

    public int holder(int send, int k) throws IndexOutOfBoundsException {
        Send s = card.knownSend(send);
        if (s == null || s.pieces == 0 || !within(k, 0, s.length - 1) || s.cut <= 0) {
            throw new IndexOutOfBoundsException("no piece has such a byte");
        }
        return k / s.cut;
    }

    public int flow(int flow, int what) throws IndexOutOfBoundsException, NoSuchElementException {
        Flow f = card.flowAt(flow);
        if (f == null) {
            throw new IndexOutOfBoundsException("no such flow");
        }
        switch (what) {
            case 0: return f.rate;
            case 1: return f.first;
            case 2: return f.paused ? 1 : 0;
            case 3: return card.waitingOf(flow);
            case 4: return f.next;
            case 5: return f.goneBytes;
            case 6: return f.doneSends;
            case 7: return card.log.jitterOf(flow);
            default: throw new NoSuchElementException("no such thing of a flow");
        }
    }

    public int burst(int flow, int n) throws IndexOutOfBoundsException, IllegalArgumentException {
        needFlow(flow);
        if (!within(n, 1, MOST_TICKS)) {
            throw new IllegalArgumentException("no such number of ticks");
        }
        return card.log.burstOf(flow, n);
    }

    public int done(int k, boolean time) {
        return time ? card.finished.timeOf(k) : card.finished.sendOf(k);
    }

    public int log(int k, int what) throws NoSuchElementException {
        switch (what) {
            case 0: return card.log.at(k, Log.SEND);
            case 1: return card.log.at(k, Log.NUMBER);
            case 2: return card.log.at(k, Log.FLOW);
            case 3: return card.log.at(k, Log.SIZE);
            case 4: return card.log.at(k, Log.DEPART);
            case 5: return card.log.at(k, Log.LEFT);
            case 6: return card.log.lateOf(k);
            case 7: return card.log.at(k, Log.WHERE);
            default: throw new NoSuchElementException("no such thing of a row");
        }
    }

    public int latest(int k) {
        return card.log.rowByLate(k);
    }

    public int merged(int flow, boolean bytes) throws IndexOutOfBoundsException {
        needFlow(flow);
        return bytes ? card.log.mostMergedOf(flow) : card.log.mergedOf(flow);
    }

    public int share(int flow) throws IndexOutOfBoundsException {
        needFlow(flow);
        return card.log.shareOf(flow);
    }

    public int calendar(int n, int k) throws IllegalArgumentException {
        if (!within(n, 1, MOST_TICKS) || !within(k, 0, MOST_NUMBER)) {
            throw new IllegalArgumentException("no such span of the calendar");
        }
        int from = card.time + k * n;
        return card.departingIn(k == 0 ? 0 : from, from + n);
    }

    public int delay(int flow) throws IndexOutOfBoundsException {
        needFlow(flow);
        return card.log.delayOf(flow);
    }

    public int rest() {
        return card.log.restOf(card.wire);
    }

    public int queue(int k, boolean when) {
        return leaver(k, when);
    }

    public boolean finds(int send, int piece, int k, int v) throws IndexOutOfBoundsException, IllegalArgumentException {
        Send s = card.knownSend(send);
        if (s == null || !s.hasOctet(piece, k)) {
            throw new IndexOutOfBoundsException("no such byte of a piece");
        }
        if (!within(v, 0, 255)) {
            throw new IllegalArgumentException("no such byte");
        }
        return s.isFound(piece, k, v);
    }

    public int blind(int send, int piece) throws IndexOutOfBoundsException {
        Send s = card.knownSend(send);
        if (s == null || !s.hasPiece(piece)) {
            throw new IndexOutOfBoundsException("no such piece");
        }
        return unlikePairs(s.putWholeWords(piece, words));
    }

    public int works(int time) throws IllegalArgumentException {
        if (!within(time, card.time, MOST_TIME)) {
            throw new IllegalArgumentException("no such time");
        }
        return paper.busyTicks(card, time);
    }

    public int quiet() {
        return paper.firstIdle(card);
    }

    public int ends(int send) throws IndexOutOfBoundsException {
        Send s = card.knownSend(send);
        if (s == null) {
            throw new IndexOutOfBoundsException("no such send");
        }
        return s.state == SEEN ? paper.endOf(card, s) : s.doneAt;
    }

    public int last() {
        return paper.lastEnd(card);
    }

    public int least(int send, int time) throws IndexOutOfBoundsException, IllegalArgumentException {
        Send s = card.knownSend(send);
        if (s == null) {
            throw new IndexOutOfBoundsException("no such send");
        }
        if (!within(time, 0, MOST_TIME)) {
            throw new IllegalArgumentException("no such time");
        }
        return s.state == SEEN ? paper.leastRate(card, s, time) : NONE;
    }

    public int first(boolean when) {
        return leaver(0, when);
    }

    public void image() {
        kept.copyFrom(card);
        hasImage = true;
    }

    public boolean back() {
        if (!hasImage) {
            return false;
        }
        card.copyFrom(kept);
        history.forget();
        return true;
    }

    public int count(int what) {
        switch (what) {
            case 0: return card.ring;
            case 1: return card.wire;
            case 2: return card.batch;
            case 3: return card.flowCount;
            case 4: return card.time;
            case 5: return card.posted;
            case 6: return card.reclaimed;
            case 7: return card.inState(POSTED);
            case 8: return card.tally.bells;
            case 9: return card.tally.saved;
            case 10: return card.finished.total;
            case 11: return card.tally.early;
            case 12: return card.inState(DONE);
            case 13: return card.tally.busy;
            case 14: return card.tally.idle;
            case 15: return card.tally.starved;
            case 16: return card.log.size;
            case 17: return card.holdSend == NONE ? 0 : 1;
            case 18: return history.size;
            default: return NONE;
        }
    }

    private static boolean within(int value, int least, int most) {
        return value >= least && value <= most;
    }

    private static int roundedUp(int above, int below) {
        return below <= 0 ? 0 : (above + below - 1) / below;
    }

    private static int gapOf(int size, int rate) {
        return rate <= 0 ? 0 : (10 * size + rate - 1) / rate;
    }

    private void needFlow(int flow) {
        if (card.flowAt(flow) == null) {
            throw new IndexOutOfBoundsException("no such flow");
        }
    }

    private void startAct(int refusal) {
        refusedBy = refusal;
        if (refusal != 0) {
            throw new IllegalStateException("the act is refused");
        }
        history.remember(card);
    }

    private int leaver(int k, boolean when) {
        if (!paper.runTo(card, k)) {
            return NONE;
        }
        return when ? paper.leftAt : 64 * paper.send + paper.number;
    }

    private int unlikePairs(int many) {
        int pairs = 0;
        for (int i = 0; i < many && i < words.length; i++) {
            for (int j = 0; j < i; j++) {
                if (words[i] != words[j]) {
                    pairs++;
                }
            }
        }
        return pairs;
    }

    private int readActs() {
        tape.open();
        if (tape.atEnd()) {
            return 0;
        }
        for (int acts = 1; acts <= MOST_ACTS; acts++) {
            readAct();
            if (tape.isRight() && tape.atEnd()) {
                return acts;
            }
            tape.takeSemicolon();
            if (!tape.isRight()) {
                return NONE;
            }
        }
        tape.markHere();
        return NONE;
    }

    private void readAct() {
        int begin = tape.begin;
        int act = tape.takeAct();
        readNumbers(act);
        if (!tape.isRight()) {
            return;
        }
        int refusal = refusalOf(act);
        if (refusal != 0) {
            refusedBy = refusal;
            tape.markAt(begin);
            return;
        }
        perform(act);
    }

    private void readNumbers(int act) {
        switch (act) {
            case ACT_CARD:
                numbers[0] = tape.takeNumber(1, MOST_RING);
                numbers[1] = tape.takeNumber(1, MOST_WIRE);
                numbers[2] = tape.takeNumber(1, MOST_BATCH);
                break;
            case ACT_FLOW:
                numbers[0] = tape.takeNumber(0, MOST_RATE);
                numbers[1] = tape.takeBehind("from", MOST_TIME);
                break;
            case ACT_SEND:
                numbers[0] = tape.takeNumber(0, MOST_FLOWS - 1);
                numbers[1] = tape.takeNumber(1, MOST_LENGTH);
                numbers[2] = tape.takeNumber(LEAST_CUT, MOST_CUT);
                numbers[3] = tape.takeBehind("at", MOST_TIME);
                break;
            case ACT_DROP:
                numbers[0] = tape.takeNumber(0, MOST_NUMBER);
                break;
            case ACT_PAUSE:
            case ACT_GO:
                numbers[0] = tape.takeNumber(0, MOST_FLOWS - 1);
                break;
            case ACT_RATE:
                numbers[0] = tape.takeNumber(0, MOST_FLOWS - 1);
                numbers[1] = tape.takeNumber(0, MOST_RATE);
                break;
            case ACT_TICK:
                numbers[0] = tape.takeNumber(1, MOST_TICKS);
                break;
            default:
                break;
        }
    }

    private int refusalOf(int act) {
        switch (act) {
            case ACT_FLOW: return card.whyNoFlow();
            case ACT_SEND: return card.whyNoSend(numbers[0]);
            case ACT_DROP: return card.whyNoDrop(numbers[0]);
            case ACT_PAUSE: return card.whyNoPause(numbers[0], true);
            case ACT_GO: return card.whyNoPause(numbers[0], false);
            case ACT_RATE: return card.whyNoRate(numbers[0]);
            case ACT_TICK: return card.whyNoTick();
            default: return 0;
        }
    }

    private void perform(int act) {
        switch (act) {
            case ACT_CARD: card.reset(numbers[0], numbers[1], numbers[2]); break;
            case ACT_FLOW: card.addFlow(numbers[0], numbers[1]); break;
            case ACT_SEND: card.post(numbers[0], numbers[1], numbers[2], numbers[3]); break;
            case ACT_BELL: card.ringBell(); break;
            case ACT_DROP: card.dropSend(numbers[0]); break;
            case ACT_PAUSE: card.setPaused(numbers[0], true); break;
            case ACT_GO: card.setPaused(numbers[0], false); break;
            case ACT_RATE: card.setRate(numbers[0], numbers[1]); break;
            case ACT_TICK: card.runTicks(numbers[0]); break;
            default: break;
        }
    }

    /** One flow: how it is paced, and what became of its bytes. */
    private static final class Flow {
        int rate;
        int first;
        boolean paused;
        int seenBytes;
        int lastDepart;
        int lastSize;
        int next;
        int goneBytes;
        int doneSends;

        void begin(int newRate, int newFirst) {
            rate = newRate;
            first = newFirst;
            paused = false;
            seenBytes = 0;
            lastDepart = NONE;
            lastSize = 0;
            next = 0;
            goneBytes = 0;
            doneSends = 0;
        }

        void copyFrom(Flow other) {
            rate = other.rate;
            first = other.first;
            paused = other.paused;
            seenBytes = other.seenBytes;
            lastDepart = other.lastDepart;
            lastSize = other.lastSize;
            next = other.next;
            goneBytes = other.goneBytes;
            doneSends = other.doneSends;
        }
    }

    /** One send and the bytes of its pieces; away tells how many of these left, for they leave in order. */
    private static final class Send {
        int number;
        int flow;
        int length;
        int cut;
        int at;
        int state;
        int pieces;
        int away;
        int seenAt;
        int doneAt;
        int place;

        void begin(int newNumber, int newFlow, int newLength, int newCut, int newAt) {
            number = newNumber;
            flow = newFlow;
            length = newLength;
            cut = newCut;
            at = newAt;
            state = POSTED;
            pieces = 0;
            away = 0;
            seenAt = NONE;
            doneAt = NONE;
            place = NONE;
        }

        void copyFrom(Send other) {
            number = other.number;
            flow = other.flow;
            length = other.length;
            cut = other.cut;
            at = other.at;
            state = other.state;
            pieces = other.pieces;
            away = other.away;
            seenAt = other.seenAt;
            doneAt = other.doneAt;
            place = other.place;
        }

        void cutUp(int time, int newPlace) {
            state = SEEN;
            pieces = Math.min(roundedUp(length, cut), MOST_PIECES);
            seenAt = time;
            place = newPlace;
        }

        boolean waits() {
            return state == SEEN && away < pieces;
        }

        boolean isOver() {
            return state == DONE || state == DROPPED;
        }

        boolean hasPiece(int k) {
            return k >= 0 && k < pieces;
        }

        boolean hasOctet(int k, int i) {
            return hasPiece(k) && i >= 0 && i < sizeOf(k);
        }

        /** Where the card's rows have piece k; 0 stands for what cannot be, so that no row is ever left. */
        int indexOf(int k) {
            return k < 0 || k >= MOST_PIECES || number < 0 ? 0 : number % MOST_RING * MOST_PIECES + k;
        }

        int sizeOf(int k) {
            return HEAD + (k == pieces - 1 ? length - k * cut : cut);
        }

        int whereIs(int k) {
            return place + k * cut;
        }

        int octetOf(int k, int i) {
            if (i < HEAD) {
                int word = i < 2 * SUM_WORD ? headWord(k, i / 2) : sumOf(k);
                return i % 2 == 0 ? word >> 8 : word & 255;
            }
            return bodyOctet(k, i);
        }

        int bodyOctet(int k, int i) {
            int from = k * cut + i - HEAD;
            return from * from + 13 * from + 7 * number + flow & 255;
        }

        int headWord(int k, int word) {
            switch (word) {
                case 0: return sizeOf(k);
                case 1: return 64 * number + k & 65535;
                case 2: return whereIs(k) >> 16 & 65535;
                case 3: return whereIs(k) & 65535;
                case 4: return 16 * flow + (k == 0 ? 1 : 0) + (k == pieces - 1 ? 2 : 0);
                default: return 0;
            }
        }

        int bodyWord(int k, int word) {
            int low = 2 * word + 1;
            return bodyOctet(k, low - 1) << 8 | (low < sizeOf(k) ? bodyOctet(k, low) : 0);
        }

        int sumOf(int k) {
            return 65535 - folded(plainSum(k));
        }

        boolean isFound(int k, int i, int v) {
            int change = v - octetOf(k, i);
            int whole = plainSum(k) + sumOf(k) + (i % 2 == 0 ? change << 8 : change);
            return folded(whole) != 65535;
        }

        int plainSum(int k) {
            int sum = 0;
            for (int word = 0; word < SUM_WORD; word++) {
                sum += headWord(k, word);
            }
            int many = (sizeOf(k) + 1) / 2;
            for (int word = HEAD_WORDS; word < many; word++) {
                sum += bodyWord(k, word);
            }
            return sum;
        }

        static int folded(int sum) {
            int low = sum;
            for (int i = 0; i < 4 && low > 65535; i++) {
                low = (low >> 16) + (low & 65535);
            }
            return low;
        }

        /** A last byte alone is no word of 2 bytes, so that nothing could be changed over with it. */
        int putWholeWords(int k, int[] row) {
            int many = 0;
            for (int word = 0; word < sizeOf(k) / 2; word++) {
                if (word != SUM_WORD && many < row.length) {
                    row[many] = word < HEAD_WORDS ? headWord(k, word) : bodyWord(k, word);
                    many++;
                }
            }
            return many;
        }
    }

    /** What the card counted. */
    private static final class Tally {
        int bells;
        int saved;
        int early;
        int busy;
        int idle;
        int starved;

        void clear() {
            bells = 0;
            saved = 0;
            early = 0;
            busy = 0;
            idle = 0;
            starved = 0;
        }

        void copyFrom(Tally other) {
            bells = other.bells;
            saved = other.saved;
            early = other.early;
            busy = other.busy;
            idle = other.idle;
            starved = other.starved;
        }
    }

    /** The latest sends that were done. */
    private static final class Finished {
        final int[] sends = new int[MOST_FINISHED];
        final int[] times = new int[MOST_FINISHED];
        int total;

        void clear() {
            total = 0;
        }

        void copyFrom(Finished other) {
            System.arraycopy(other.sends, 0, sends, 0, MOST_FINISHED);
            System.arraycopy(other.times, 0, times, 0, MOST_FINISHED);
            total = other.total;
        }

        void add(int send, int time) {
            int i = Math.floorMod(total, MOST_FINISHED);
            sends[i] = send;
            times[i] = time;
            total++;
        }

        boolean has(int k) {
            return k >= 0 && k < MOST_FINISHED && k < total;
        }

        int sendOf(int k) {
            return has(k) ? sends[Math.floorMod(total - 1 - k, MOST_FINISHED)] : NONE;
        }

        int timeOf(int k) {
            return has(k) ? times[Math.floorMod(total - 1 - k, MOST_FINISHED)] : NONE;
        }
    }

    /** The latest pieces that left, the eldest being row 0. */
    private static final class Log {
        static final int SEND = 0;
        static final int NUMBER = 1;
        static final int FLOW = 2;
        static final int SIZE = 3;
        static final int DEPART = 4;
        static final int LEFT = 5;
        static final int WHERE = 6;
        static final int COLUMNS = 7;

        final int[] cells = new int[MOST_ROWS * COLUMNS];
        int eldest;
        int size;

        void clear() {
            eldest = 0;
            size = 0;
        }

        void copyFrom(Log other) {
            System.arraycopy(other.cells, 0, cells, 0, MOST_ROWS * COLUMNS);
            eldest = other.eldest;
            size = other.size;
        }

        void add(Send s, int k, int depart, int left) {
            int row = Math.floorMod(eldest + size, MOST_ROWS) * COLUMNS;
            cells[row + SEND] = s.number;
            cells[row + NUMBER] = k;
            cells[row + FLOW] = s.flow;
            cells[row + SIZE] = s.sizeOf(k);
            cells[row + DEPART] = depart;
            cells[row + LEFT] = left;
            cells[row + WHERE] = s.whereIs(k);
            if (size < MOST_ROWS) {
                size++;
            } else {
                eldest = Math.floorMod(eldest + 1, MOST_ROWS);
            }
        }

        int at(int row, int column) {
            if (row < 0 || row >= size || column < 0 || column >= COLUMNS) {
                return NONE;
            }
            return cells[Math.floorMod(eldest + row, MOST_ROWS) * COLUMNS + column];
        }

        int lateOf(int row) {
            return row < 0 || row >= size ? NONE : at(row, LEFT) - at(row, DEPART);
        }

        int rowByLate(int k) {
            for (int row = 0; row < size; row++) {
                int late = lateOf(row);
                int ahead = 0;
                for (int other = 0; other < size && ahead <= k; other++) {
                    int more = lateOf(other) - late;
                    if (more > 0 || more == 0 && other < row) {
                        ahead++;
                    }
                }
                if (ahead == k) {
                    return row;
                }
            }
            return NONE;
        }

        int burstOf(int flow, int n) {
            int most = 0;
            for (int row = 0; row < size; row++) {
                if (at(row, FLOW) == flow) {
                    most = Math.max(most, sizesUntil(flow, row, at(row, LEFT) + n));
                }
            }
            return most;
        }

        int sizesUntil(int flow, int from, int end) {
            int sum = 0;
            for (int row = from; row < size && at(row, LEFT) < end; row++) {
                sum += at(row, FLOW) == flow ? at(row, SIZE) : 0;
            }
            return sum;
        }

        int mergedOf(int flow) {
            int runs = 0;
            int end = NONE;
            for (int row = 0; row < size; row++) {
                if (at(row, FLOW) == flow) {
                    runs += at(row, WHERE) == end ? 0 : 1;
                    end = at(row, WHERE) + at(row, SIZE) - HEAD;
                }
            }
            return runs;
        }

        int mostMergedOf(int flow) {
            int most = 0;
            int begin = NONE;
            int end = NONE;
            for (int row = 0; row < size; row++) {
                if (at(row, FLOW) == flow) {
                    begin = at(row, WHERE) == end ? begin : at(row, WHERE);
                    end = at(row, WHERE) + at(row, SIZE) - HEAD;
                    most = Math.max(most, end - begin);
                }
            }
            return most;
        }

        int shareOf(int flow) {
            int mine = 0;
            int all = 0;
            for (int row = 0; row < size; row++) {
                mine += at(row, FLOW) == flow ? at(row, SIZE) : 0;
                all += at(row, SIZE);
            }
            return all <= 0 ? 0 : 100 * mine / all;
        }

        int delayOf(int flow) {
            int sum = 0;
            int rows = 0;
            for (int row = 0; row < size; row++) {
                if (at(row, FLOW) == flow) {
                    sum += lateOf(row);
                    rows++;
                }
            }
            return rows <= 0 ? NONE : 100 * sum / rows;
        }

        int restOf(int wire) {
            int most = NONE;
            for (int row = 1; row < size; row++) {
                int free = at(row - 1, LEFT) + roundedUp(at(row - 1, SIZE), wire);
                most = Math.max(most, at(row, LEFT) - free);
            }
            return most;
        }

        int jitterOf(int flow) {
            int rows = 0;
            int ahead = 0;
            int least = MOST_TIME;
            int most = 0;
            for (int row = 0; row < size; row++) {
                if (at(row, FLOW) == flow) {
                    int between = at(row, LEFT) - ahead;
                    least = rows == 0 ? least : Math.min(least, between);
                    most = rows == 0 ? most : Math.max(most, between);
                    ahead = at(row, LEFT);
                    rows++;
                }
            }
            return rows < 3 ? NONE : most - least;
        }
    }

    /** All that acts change, and that is taken back or kept as an image. */
    private static final class Card {
        final Flow[] flows = new Flow[MOST_FLOWS];
        final Send[] sends = new Send[MOST_RING];
        final int[] depart = new int[ALL_PIECES];
        final int[] left = new int[ALL_PIECES];
        final int[] gone = new int[ALL_PIECES];
        final Log log = new Log();
        final Finished finished = new Finished();
        final Tally tally = new Tally();
        int ring;
        int wire;
        int batch;
        int time;
        int flowCount;
        int posted;
        int reclaimed;
        int holdSend;
        int holdUntil;

        Card() {
            for (int i = 0; i < MOST_FLOWS; i++) {
                flows[i] = new Flow();
            }
            for (int i = 0; i < MOST_RING; i++) {
                sends[i] = new Send();
            }
            reset(4, 10, 1);
        }

        void reset(int newRing, int newWire, int newBatch) {
            ring = newRing;
            wire = newWire;
            batch = newBatch;
            time = 0;
            flowCount = 0;
            posted = 0;
            reclaimed = 0;
            holdSend = NONE;
            holdUntil = 0;
            log.clear();
            finished.clear();
            tally.clear();
        }

        void copyFrom(Card other) {
            for (int i = 0; i < MOST_FLOWS; i++) {
                flows[i].copyFrom(other.flows[i]);
            }
            for (int i = 0; i < MOST_RING; i++) {
                sends[i].copyFrom(other.sends[i]);
            }
            System.arraycopy(other.depart, 0, depart, 0, ALL_PIECES);
            System.arraycopy(other.left, 0, left, 0, ALL_PIECES);
            System.arraycopy(other.gone, 0, gone, 0, ALL_PIECES);
            log.copyFrom(other.log);
            finished.copyFrom(other.finished);
            tally.copyFrom(other.tally);
            ring = other.ring;
            wire = other.wire;
            batch = other.batch;
            time = other.time;
            flowCount = other.flowCount;
            posted = other.posted;
            reclaimed = other.reclaimed;
            holdSend = other.holdSend;
            holdUntil = other.holdUntil;
        }

        Flow flowAt(int flow) {
            return flow < 0 || flow >= flowCount || flow >= MOST_FLOWS ? null : flows[flow];
        }

        Send sendAt(int number) {
            return number < 0 || number >= posted || number < posted - MOST_RING ? null : sends[number % MOST_RING];
        }

        Send knownSend(int number) {
            return number < posted - ring ? null : sendAt(number);
        }

        boolean isPaused(int flow) {
            return flow < 0 || flow >= MOST_FLOWS || flows[flow].paused;
        }

        int whyNoFlow() {
            return flowCount >= MOST_FLOWS ? NO_ROOM_FOR_FLOW : 0;
        }

        int whyNoSend(int flow) {
            if (flowAt(flow) == null) {
                return NO_SUCH_FLOW;
            }
            return posted - reclaimed >= ring ? RING_FULL : 0;
        }

        int whyNoDrop(int number) {
            Send s = knownSend(number);
            return s == null || s.isOver() || s.away > 0 ? NOT_DROPPABLE : 0;
        }

        int whyNoPause(int flow, boolean paused) {
            Flow f = flowAt(flow);
            if (f == null) {
                return NO_SUCH_FLOW;
            }
            return f.paused == paused ? SO_ALREADY : 0;
        }

        int whyNoRate(int flow) {
            return flowAt(flow) == null ? NO_SUCH_FLOW : 0;
        }

        int whyNoTick() {
            return time >= MOST_TIME ? TIME_OVER : 0;
        }

        void addFlow(int rate, int first) {
            if (flowCount < MOST_FLOWS) {
                flows[flowCount].begin(rate, first);
                flowCount++;
            }
        }

        int post(int flow, int length, int cut, int at) {
            int number = posted;
            sends[Math.floorMod(number, MOST_RING)].begin(number, flow, length, cut, at);
            posted++;
            if (inState(POSTED) >= batch) {
                ringBell();
            }
            return number;
        }

        int ringBell() {
            int seen = 0;
            for (int n = reclaimed; n < posted; n++) {
                Send s = sendAt(n);
                Flow f = s == null ? null : flowAt(s.flow);
                if (s != null && f != null && s.state == POSTED) {
                    s.cutUp(time, f.first + f.seenBytes);
                    f.seenBytes += s.length;
                    for (int k = 0; k < s.pieces; k++) {
                        left[s.indexOf(k)] = NONE;
                        gone[s.indexOf(k)] = NONE;
                    }
                    seen++;
                }
            }
            for (int flow = 0; flow < flowCount && flow < MOST_FLOWS; flow++) {
                flows[flow].next = putDeparts(flow, flows[flow].rate, depart);
            }
            tally.bells++;
            tally.saved += Math.max(0, seen - 1);
            return seen;
        }

        int dropSend(int number) {
            Send s = knownSend(number);
            Flow f = s == null ? null : flowAt(s.flow);
            if (s == null || f == null) {
                return NONE;
            }
            int had = s.pieces;
            s.state = DROPPED;
            s.pieces = 0;
            f.next = putDeparts(s.flow, f.rate, depart);
            reclaim();
            return had;
        }

        int setPaused(int flow, boolean paused) {
            Flow f = flowAt(flow);
            if (f != null) {
                f.paused = paused;
            }
            return waitingOf(flow);
        }

        int setRate(int flow, int rate) {
            Flow f = flowAt(flow);
            if (f == null) {
                return NONE;
            }
            int was = f.rate;
            f.rate = rate;
            f.next = putDeparts(flow, rate, depart);
            return was;
        }

        int runTicks(int n) {
            int leaving = 0;
            for (int i = 0; i < n && time < MOST_TIME; i++) {
                if (holdSend == NONE && letLeave()) {
                    leaving++;
                }
                if (holdSend != NONE) {
                    tally.busy++;
                } else {
                    tally.idle++;
                    tally.starved += readySend(true) == null ? 0 : 1;
                }
                time++;
                if (holdSend != NONE && holdUntil <= time) {
                    letGo();
                }
            }
            return leaving;
        }

        boolean letLeave() {
            Send s = readySend(false);
            Flow f = s == null ? null : flowAt(s.flow);
            if (s == null || f == null) {
                return false;
            }
            int k = s.away;
            int i = s.indexOf(k);
            left[i] = time;
            log.add(s, k, depart[i], time);
            f.lastDepart = depart[i];
            f.lastSize = s.sizeOf(k);
            holdSend = s.number;
            holdUntil = time + roundedUp(f.lastSize, wire);
            s.away++;
            return true;
        }

        Send readySend(boolean evenPaused) {
            Send best = null;
            int least = time + 1;
            for (int n = reclaimed; n < posted; n++) {
                Send s = sendAt(n);
                if (s != null && s.waits() && (evenPaused || !isPaused(s.flow))
                        && depart[s.indexOf(s.away)] < least) {
                    best = s;
                    least = depart[s.indexOf(s.away)];
                }
            }
            return best;
        }

        void letGo() {
            Send s = sendAt(holdSend);
            Flow f = s == null ? null : flowAt(s.flow);
            holdSend = NONE;
            if (s == null || f == null) {
                return;
            }
            int k = s.away - 1;
            gone[s.indexOf(k)] = time;
            f.goneBytes += s.sizeOf(k) - HEAD;
            if (s.away < s.pieces) {
                return;
            }
            s.state = DONE;
            s.doneAt = time;
            f.doneSends++;
            finished.add(s.number, time);
            tally.early += s.number > reclaimed ? 1 : 0;
            reclaim();
        }

        void reclaim() {
            for (int n = reclaimed; n < posted; n++) {
                Send s = sendAt(n);
                if (s != null && !s.isOver()) {
                    return;
                }
                reclaimed = n + 1;
            }
        }

        /** Puts when the flow's pieces may leave by a rate into the row; answers when one more might. */
        int putDeparts(int flow, int rate, int[] row) {
            Flow f = flowAt(flow);
            int next = f == null || f.lastDepart == NONE ? 0 : f.lastDepart + gapOf(f.lastSize, rate);
            for (int n = reclaimed; n < posted; n++) {
                Send s = sendAt(n);
                if (s != null && s.waits() && s.flow == flow) {
                    int earliest = Math.max(s.seenAt, s.at);
                    for (int k = s.away; k < s.pieces; k++) {
                        int i = s.indexOf(k);
                        int leaves = Math.max(earliest, next);
                        if (i < row.length) {
                            row[i] = leaves;
                        }
                        next = leaves + gapOf(s.sizeOf(k), rate);
                    }
                }
            }
            return next;
        }

        int waitingOf(int flow) {
            int waiting = 0;
            for (int n = reclaimed; n < posted; n++) {
                Send s = sendAt(n);
                if (s != null && s.waits() && s.flow == flow) {
                    waiting += s.pieces - s.away;
                }
            }
            return waiting;
        }

        int departingIn(int from, int end) {
            int many = 0;
            for (int n = reclaimed; n < posted; n++) {
                Send s = sendAt(n);
                if (s != null && s.waits()) {
                    for (int k = s.away; k < s.pieces; k++) {
                        many += within(depart[s.indexOf(k)], from, end - 1) ? 1 : 0;
                    }
                }
            }
            return many;
        }

        int inState(int state) {
            int many = 0;
            for (int n = reclaimed; n < posted; n++) {
                Send s = sendAt(n);
                if (s != null && s.state == state) {
                    many++;
                }
            }
            return many;
        }
    }

    /** The cards as they were ahead of the latest acts. */
    private static final class History {
        final Card[] cards = new Card[MOST_REMEMBERED];
        int eldest = 0;
        int size = 0;

        History() {
            for (int i = 0; i < MOST_REMEMBERED; i++) {
                cards[i] = new Card();
            }
        }

        void remember(Card card) {
            cards[Math.floorMod(eldest + size, MOST_REMEMBERED)].copyFrom(card);
            if (size < MOST_REMEMBERED) {
                size++;
            } else {
                eldest = Math.floorMod(eldest + 1, MOST_REMEMBERED);
            }
        }

        void takeBack(Card card) {
            if (size > 0) {
                size--;
                card.copyFrom(cards[Math.floorMod(eldest + size, MOST_REMEMBERED)]);
            }
        }

        void forget() {
            eldest = 0;
            size = 0;
        }
    }

    /**
     * What the wire would do if nothing more were done. When a piece may leave does not hang on when those ahead
     * left, so that pieces leave just in the order of these times and whole ticks can be leapt over.
     */
    private static final class Paper {
        final int[] away = new int[MOST_RING];
        final int[] depart = new int[ALL_PIECES];
        int free;
        int send;
        int number;
        int leftAt;
        boolean isLastPiece;

        void begin(Card card) {
            for (int i = 0; i < MOST_RING; i++) {
                away[i] = card.sends[i].away;
            }
            free = card.holdSend == NONE ? card.time : card.holdUntil;
        }

        void beginAsTimed(Card card) {
            begin(card);
            System.arraycopy(card.depart, 0, depart, 0, ALL_PIECES);
        }

        boolean step(Card card) {
            Send best = null;
            int least = MOST_TIME;
            for (int n = card.reclaimed; n < card.posted; n++) {
                Send s = card.sendAt(n);
                if (s != null && s.waits() && !card.isPaused(s.flow)) {
                    int k = away[Math.floorMod(n, MOST_RING)];
                    if (k < s.pieces && depart[s.indexOf(k)] < least) {
                        best = s;
                        least = depart[s.indexOf(k)];
                    }
                }
            }
            if (best == null || free >= MOST_TIME) {
                return false;
            }
            send = best.number;
            number = away[Math.floorMod(send, MOST_RING)]++;
            leftAt = Math.max(free, least);
            free = leftAt + roundedUp(best.sizeOf(number), card.wire);
            isLastPiece = number == best.pieces - 1;
            return true;
        }

        boolean runTo(Card card, int k) {
            if (k < 0 || k >= ALL_PIECES) {
                return false;
            }
            beginAsTimed(card);
            for (int i = 0; i < k; i++) {
                if (!step(card)) {
                    return false;
                }
            }
            return step(card);
        }

        int busyTicks(Card card, int end) {
            beginAsTimed(card);
            int busy = Math.min(free, end) - card.time;
            for (int i = 0; i < ALL_PIECES && step(card) && leftAt < end; i++) {
                busy += Math.min(free, end) - leftAt;
            }
            return busy;
        }

        int firstIdle(Card card) {
            beginAsTimed(card);
            int idle = free;
            for (int i = 0; i < ALL_PIECES && step(card) && leftAt == idle; i++) {
                idle = free;
            }
            return idle < MOST_TIME ? idle : NONE;
        }

        int endOf(Card card, Send s) {
            beginAsTimed(card);
            int end = runToEnd(card, s, MOST_TIME);
            return end <= MOST_TIME ? end : NONE;
        }

        /** When the send would be done; a time above the limit, if it would not be by then. */
        int runToEnd(Card card, Send s, int limit) {
            if (!s.waits()) {
                return card.holdUntil;
            }
            for (int i = 0; i < ALL_PIECES && free < limit && step(card); i++) {
                if (isLastPiece && send == s.number) {
                    return free;
                }
            }
            return MOST_TIME + 1;
        }

        int lastEnd(Card card) {
            beginAsTimed(card);
            int open = card.inState(SEEN);
            int end = card.time;
            Send held = card.sendAt(card.holdSend);
            if (held != null && !held.waits()) {
                open--;
                end = free;
            }
            for (int i = 0; i < ALL_PIECES && open > 0 && step(card); i++) {
                if (isLastPiece) {
                    open--;
                    end = free;
                }
            }
            return open == 0 && end <= MOST_TIME ? end : NONE;
        }

        /**
         * By a greater rate no piece of the flow may leave later, and none of another flow comes ahead of the send's
         * last piece that did not before; so the send is done no later, and rates can be halved.
         */
        int leastRate(Card card, Send s, int limit) {
            beginAsTimed(card);
            if (!isDoneBy(card, s, MOST_RATE, limit)) {
                return NONE;
            }
            int least = 1;
            int most = MOST_RATE;
            for (int i = 0; i < MOST_RATE && least < most; i++) {
                int middle = (least + most) / 2;
                if (isDoneBy(card, s, middle, limit)) {
                    most = middle;
                } else {
                    least = middle + 1;
                }
            }
            return most;
        }

        boolean isDoneBy(Card card, Send s, int rate, int limit) {
            begin(card);
            card.putDeparts(s.flow, rate, depart);
            return runToEnd(card, s, limit) <= limit;
        }
    }

    /** The bytes that were fed, and how far they are read: one thing of the text at a time. */
    private static final class Tape {
        static final int END = 0;
        static final int WORD = 1;
        static final int NUMBER = 2;
        static final int OTHER = 3;

        final byte[] bytes = new byte[MOST_TAPE];
        int length = 0;
        int kind = END;
        int begin = 0;
        int after = 0;
        int wrong = NONE;

        boolean hasRoom(int more) {
            return length + more <= MOST_TAPE;
        }

        void append(int number) {
            for (int shift = 24; shift >= 0; shift -= 8) {
                if (length < MOST_TAPE) {
                    bytes[length] = (byte) (number >> shift);
                    length++;
                }
            }
        }

        int byteAt(int i) {
            return i < 0 || i >= length || i >= MOST_TAPE ? NONE : bytes[i] & 255;
        }

        static boolean isLetter(int sign) {
            return sign >= 'a' && sign <= 'z';
        }

        static boolean isDigit(int sign) {
            return sign >= '0' && sign <= '9';
        }

        void open() {
            wrong = NONE;
            after = 0;
            advance();
        }

        void advance() {
            begin = after;
            while (begin < length && byteAt(begin) == ' ') {
                begin++;
            }
            after = begin;
            if (begin >= length) {
                kind = END;
            } else if (isLetter(byteAt(begin))) {
                kind = WORD;
                while (after < length && isLetter(byteAt(after))) {
                    after++;
                }
            } else if (isDigit(byteAt(begin))) {
                kind = NUMBER;
                while (after < length && isDigit(byteAt(after))) {
                    after++;
                }
            } else {
                kind = OTHER;
                after++;
            }
        }

        boolean isRight() {
            return wrong == NONE;
        }

        boolean atEnd() {
            return kind == END;
        }

        void markAt(int i) {
            if (wrong == NONE) {
                wrong = i;
            }
        }

        void markHere() {
            markAt(begin);
        }

        boolean isWord(String word) {
            if (kind != WORD || after - begin != word.length()) {
                return false;
            }
            for (int i = 0; i < word.length(); i++) {
                if (byteAt(begin + i) != word.charAt(i)) {
                    return false;
                }
            }
            return true;
        }

        void takeSemicolon() {
            if (!isRight()) {
                return;
            }
            if (kind == OTHER && byteAt(begin) == ';') {
                advance();
            } else {
                markHere();
            }
        }

        int takeAct() {
            int act = actNamed();
            if (act == NONE) {
                markHere();
            } else {
                advance();
            }
            return act;
        }

        int actNamed() {
            if (isWord("card")) {
                return ACT_CARD;
            } else if (isWord("flow")) {
                return ACT_FLOW;
            } else if (isWord("send")) {
                return ACT_SEND;
            } else if (isWord("bell")) {
                return ACT_BELL;
            } else if (isWord("drop")) {
                return ACT_DROP;
            } else if (isWord("pause")) {
                return ACT_PAUSE;
            } else if (isWord("go")) {
                return ACT_GO;
            } else if (isWord("rate")) {
                return ACT_RATE;
            }
            return isWord("tick") ? ACT_TICK : NONE;
        }

        int takeNumber(int least, int most) {
            if (!isRight()) {
                return NONE;
            }
            int value = numberHere();
            if (!within(value, least, most)) {
                markHere();
                return NONE;
            }
            advance();
            return value;
        }

        int numberHere() {
            if (kind != NUMBER || after - begin > 4) {
                return NONE;
            }
            int value = 0;
            for (int i = begin; i < after; i++) {
                value = 10 * value + byteAt(i) - '0';
            }
            return value;
        }

        /** A number that may be told behind a word; 0 without. */
        int takeBehind(String word, int most) {
            if (!isRight() || !isWord(word)) {
                return 0;
            }
            advance();
            return takeNumber(0, most);
        }
    }
}
