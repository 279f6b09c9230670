import java.util.ArrayList;
import java.util.Arrays;
import java.util.List;
import java.util.NoSuchElementException;
import java.util.Random;
import java.util.function.LongSupplier;

/** Random runs of calls on the class and on a slow model that is written as the document is: the answers must agree. */
public final class ModelTest {
    static final int RUNS = 2000;
    static int wrong = 0;
    static int compared = 0;

    // ---- the model ----

    static final class Flow implements Cloneable {
        int rate;
        int first;
        boolean paused;
        @Override public Flow clone() {
            Flow f = new Flow();
            f.rate = rate;
            f.first = first;
            f.paused = paused;
            return f;
        }
    }

    static final class Piece {
        int send;
        int k;
        int bytes;
        int depart = -1;
        int left = -1;
        int gone = -1;
        int size() {
            return 12 + bytes;
        }
        Piece copy() {
            Piece p = new Piece();
            p.send = send;
            p.k = k;
            p.bytes = bytes;
            p.depart = depart;
            p.left = left;
            p.gone = gone;
            return p;
        }
    }

    static final class Send {
        int n;
        int flow;
        int length;
        int cut;
        int at;
        int state;
        int seen = -1;
        int done = -1;
        int place = -1;
        List<Piece> pieces = new ArrayList<>();
        Send copy() {
            Send s = new Send();
            s.n = n;
            s.flow = flow;
            s.length = length;
            s.cut = cut;
            s.at = at;
            s.state = state;
            s.seen = seen;
            s.done = done;
            s.place = place;
            for (Piece p : pieces) {
                s.pieces.add(p.copy());
            }
            return s;
        }
    }

    static final class State {
        int ring = 4;
        int wire = 10;
        int batch = 1;
        int time = 0;
        List<Flow> flows = new ArrayList<>();
        List<Send> sends = new ArrayList<>();
        List<int[]> log = new ArrayList<>();
        List<int[]> done = new ArrayList<>();
        int bells;
        int usefulBells;
        int seenSends;
        int early;
        int busy;
        int idle;
        int starved;
        int wireSend = -1;
        int wirePiece;
        int wireTicksLeft;

        State copy() {
            State t = new State();
            t.ring = ring;
            t.wire = wire;
            t.batch = batch;
            t.time = time;
            for (Flow f : flows) {
                t.flows.add(f.clone());
            }
            for (Send s : sends) {
                t.sends.add(s.copy());
            }
            t.log.addAll(log);
            t.done.addAll(done);
            t.bells = bells;
            t.usefulBells = usefulBells;
            t.seenSends = seenSends;
            t.early = early;
            t.busy = busy;
            t.idle = idle;
            t.starved = starved;
            t.wireSend = wireSend;
            t.wirePiece = wirePiece;
            t.wireTicksLeft = wireTicksLeft;
            return t;
        }

        static int gap(int size, int rate) {
            return rate == 0 ? 0 : (int) Math.ceil(10.0 * size / rate);
        }

        /** Times every piece that did not leave; answers NEXT of each flow. */
        int[] timed() {
            int[] next = new int[flows.size()];
            for (int f = 0; f < flows.size(); f++) {
                Piece latest = null;
                for (Send s : sends) {
                    for (Piece p : s.pieces) {
                        if (s.flow == f && p.left >= 0 && (latest == null || p.left > latest.left)) {
                            latest = p;
                        }
                    }
                }
                int rate = flows.get(f).rate;
                int nx = latest == null ? 0 : latest.depart + gap(latest.size(), rate);
                for (Send s : sends) {
                    for (Piece p : s.pieces) {
                        if (s.flow == f && p.left < 0) {
                            p.depart = Math.max(Math.max(s.seen, s.at), nx);
                            nx = p.depart + gap(p.size(), rate);
                        }
                    }
                }
                next[f] = nx;
            }
            return next;
        }

        List<Piece> waiting() {
            List<Piece> all = new ArrayList<>();
            for (Send s : sends) {
                for (Piece p : s.pieces) {
                    if (p.left < 0) {
                        all.add(p);
                    }
                }
            }
            return all;
        }

        int reclaimed() {
            int r = 0;
            while (r < sends.size() && sends.get(r).state >= 2) {
                r++;
            }
            return r;
        }

        int open() {
            int n = 0;
            for (Send s : sends) {
                n += s.state == 0 ? 1 : 0;
            }
            return n;
        }

        int ring() {
            int seen = 0;
            for (Send s : sends) {
                if (s.state == 0) {
                    s.state = 1;
                    s.seen = time;
                    s.place = flows.get(s.flow).first;
                    for (Send o : sends) {
                        if (o != s && o.flow == s.flow && o.seen >= 0) {
                            s.place += o.length;
                        }
                    }
                    for (int from = 0; from < s.length; from += s.cut) {
                        Piece p = new Piece();
                        p.send = s.n;
                        p.k = s.pieces.size();
                        p.bytes = Math.min(s.cut, s.length - from);
                        s.pieces.add(p);
                    }
                    seen++;
                }
            }
            bells++;
            usefulBells += seen > 0 ? 1 : 0;
            seenSends += seen;
            timed();
            return seen;
        }

        boolean tickOnce() {
            boolean leaves = false;
            if (wireSend < 0) {
                Piece best = null;
                for (Piece p : waiting()) {
                    if (p.depart <= time && !flows.get(sends.get(p.send).flow).paused
                            && (best == null || p.depart < best.depart)) {
                        best = p;
                    }
                }
                if (best != null) {
                    leaves = true;
                    Send s = sends.get(best.send);
                    best.left = time;
                    wireSend = s.n;
                    wirePiece = best.k;
                    wireTicksLeft = (int) Math.ceil(best.size() / (double) wire);
                    log.add(new int[] {s.n, best.k, s.flow, best.size(), best.depart, time, time - best.depart,
                        s.place + best.k * s.cut});
                }
            }
            if (wireSend >= 0) {
                busy++;
                wireTicksLeft--;
            } else {
                idle++;
                boolean due = false;
                for (Piece p : waiting()) {
                    due |= p.depart <= time;
                }
                starved += due ? 1 : 0;
            }
            time++;
            if (wireSend >= 0 && wireTicksLeft == 0) {
                Send s = sends.get(wireSend);
                s.pieces.get(wirePiece).gone = time;
                wireSend = -1;
                boolean all = true;
                for (Piece p : s.pieces) {
                    all &= p.gone >= 0;
                }
                if (all) {
                    s.state = 2;
                    s.done = time;
                    done.add(new int[] {s.n, time});
                    for (Send o : sends) {
                        if (o.n < s.n && o.state < 2) {
                            early++;
                            break;
                        }
                    }
                }
            }
            return leaves;
        }
    }

    static final class Refused extends RuntimeException {
        private static final long serialVersionUID = 1L;
        final int number;
        Refused(int number) {
            this.number = number;
        }
    }

    static final class Wrong extends RuntimeException {
        private static final long serialVersionUID = 1L;
        final int at;
        Wrong(int at) {
            this.at = at;
        }
    }

    static final class Model {
        State st = new State();
        State kept = null;
        List<State> past = new ArrayList<>();
        String tape = "";
        int why = 0;
        int fault = -1;

        int feed(int... v) {
            if (tape.length() + 20 > 400) {
                return -1;
            }
            StringBuilder b = new StringBuilder(tape);
            for (int x : v) {
                for (int i = 3; i >= 0; i--) {
                    b.append((char) (x >>> 8 * i & 255));
                }
            }
            tape = b.toString();
            return tape.length();
        }

        boolean end(int n) {
            if (n < 0 || n > tape.length()) {
                return false;
            }
            tape = tape.substring(0, n);
            return true;
        }

        // -- acts on the state

        void needFlow(int f) {
            if (f < 0 || f >= st.flows.size()) {
                throw new Refused(2);
            }
        }

        int doSend(int flow, int length, int cut, int at) {
            needFlow(flow);
            if (st.sends.size() - st.reclaimed() == st.ring) {
                throw new Refused(3);
            }
            Send s = new Send();
            s.n = st.sends.size();
            s.flow = flow;
            s.length = length;
            s.cut = cut;
            s.at = at;
            st.sends.add(s);
            if (st.open() == st.batch) {
                st.ring();
            }
            return s.n;
        }

        int doDrop(int n) {
            if (n < 0 || n >= st.sends.size() || st.sends.get(n).state > 1) {
                throw new Refused(4);
            }
            Send s = st.sends.get(n);
            for (Piece p : s.pieces) {
                if (p.left >= 0) {
                    throw new Refused(4);
                }
            }
            int had = s.pieces.size();
            s.state = 3;
            s.pieces.clear();
            st.timed();
            return had;
        }

        int doPause(int f, boolean paused) {
            needFlow(f);
            if (st.flows.get(f).paused == paused) {
                throw new Refused(5);
            }
            st.flows.get(f).paused = paused;
            return waitingOf(f);
        }

        int doRate(int f, int rate) {
            needFlow(f);
            int was = st.flows.get(f).rate;
            st.flows.get(f).rate = rate;
            st.timed();
            return was;
        }

        int doTick(int n) {
            if (st.time == 9999) {
                throw new Refused(6);
            }
            int left = 0;
            for (int i = 0; i < n && st.time < 9999; i++) {
                left += st.tickOnce() ? 1 : 0;
            }
            return left;
        }

        int waitingOf(int f) {
            int n = 0;
            for (Piece p : st.waiting()) {
                n += st.sends.get(p.send).flow == f ? 1 : 0;
            }
            return n;
        }

        // -- texts

        List<int[]> tokens;
        int at;

        int beginOf(int i) {
            return i < tokens.size() ? tokens.get(i)[0] : tape.length();
        }

        String tokenAt(int i) {
            return i < tokens.size() ? tape.substring(tokens.get(i)[0], tokens.get(i)[1]) : "";
        }

        void tokenize() {
            tokens = new ArrayList<>();
            for (int i = 0; i < tape.length();) {
                int j = i + 1;
                char c = tape.charAt(i);
                String kind = c >= 'a' && c <= 'z' ? "abcdefghijklmnopqrstuvwxyz" : c >= '0' && c <= '9' ? "0123456789" : "";
                while (j < tape.length() && kind.indexOf(tape.charAt(j)) >= 0) {
                    j++;
                }
                if (c != ' ') {
                    tokens.add(new int[] {i, j});
                }
                i = j;
            }
        }

        int number(int lo, int hi) {
            String t = tokenAt(at);
            if (!t.matches("[0-9]{1,4}") || Integer.parseInt(t) < lo || Integer.parseInt(t) > hi) {
                throw new Wrong(beginOf(at));
            }
            at++;
            return Integer.parseInt(t);
        }

        int behind(String word) {
            if (!tokenAt(at).equals(word)) {
                return 0;
            }
            at++;
            return number(0, 9999);
        }

        void act() {
            switch (tokenAt(at++)) {
                case "card": {
                    int r = number(1, 8);
                    int w = number(1, 40);
                    int b = number(1, 8);
                    st = new State();
                    st.ring = r;
                    st.wire = w;
                    st.batch = b;
                    break;
                }
                case "flow": {
                    Flow f = new Flow();
                    f.rate = number(0, 999);
                    f.first = behind("from");
                    if (st.flows.size() == 6) {
                        throw new Refused(1);
                    }
                    st.flows.add(f);
                    break;
                }
                case "send": {
                    int f = number(0, 5);
                    int l = number(1, 200);
                    int c = number(10, 100);
                    doSend(f, l, c, behind("at"));
                    break;
                }
                case "bell": st.ring(); break;
                case "drop": doDrop(number(0, 9999)); break;
                case "pause": doPause(number(0, 5), true); break;
                case "go": doPause(number(0, 5), false); break;
                case "rate": {
                    int f = number(0, 5);
                    doRate(f, number(0, 999));
                    break;
                }
                case "tick": doTick(number(1, 99)); break;
                default: throw new Wrong(beginOf(at - 1));
            }
        }

        int acts() {
            State before = st.copy();
            tokenize();
            at = 0;
            int n = 0;
            int begin = 0;
            try {
                while (tokens.size() > 0) {
                    begin = beginOf(at);
                    if (n == 14) {
                        throw new Wrong(begin);
                    }
                    act();
                    n++;
                    if (at == tokens.size()) {
                        break;
                    }
                    if (!tokenAt(at).equals(";")) {
                        throw new Wrong(beginOf(at));
                    }
                    at++;
                }
            } catch (Wrong w) {
                return wrongText(before, w.at);
            } catch (Refused r) {
                why = r.number;
                return wrongText(before, begin);
            }
            fault = -1;
            tape = "";
            past.clear();
            if (n > 0) {
                why = 0;
            }
            return n;
        }

        int wrongText(State before, int where) {
            st = before;
            fault = where;
            tape = "";
            throw new IllegalArgumentException();
        }

        int act(LongSupplier what) {
            State before = st.copy();
            int answer;
            try {
                answer = (int) what.getAsLong();
            } catch (Refused r) {
                why = r.number;
                throw new IllegalStateException();
            }
            why = 0;
            past.add(before);
            if (past.size() > 8) {
                past.remove(0);
            }
            return answer;
        }

        static void need(boolean ok) {
            if (!ok) {
                throw new IllegalArgumentException();
            }
        }

        static void index(boolean ok) {
            if (!ok) {
                throw new IndexOutOfBoundsException();
            }
        }

        int send(int f, int l, int c, int a) {
            need(l >= 1 && l <= 200 && c >= 10 && c <= 100 && a >= 0 && a <= 9999);
            return act(() -> doSend(f, l, c, a));
        }

        int rate(int f, int r) {
            need(r >= 0 && r <= 999);
            return act(() -> doRate(f, r));
        }

        int tick(int n) {
            need(n >= 1 && n <= 99);
            return act(() -> doTick(n));
        }

        int undo() {
            if (past.isEmpty()) {
                throw new IllegalStateException();
            }
            st = past.remove(past.size() - 1);
            return past.size();
        }

        // -- what is asked

        Send known(int n) {
            index(n >= 0 && n < st.sends.size() && n >= st.sends.size() - st.ring);
            return st.sends.get(n);
        }

        Piece pieceOf(int n, int k) {
            Send s = known(n);
            index(k >= 0 && k < s.pieces.size());
            return s.pieces.get(k);
        }

        int told(int n, int what) {
            Send s = known(n);
            int[] all = {s.flow, s.length, s.cut, s.at, s.state, s.pieces.size(), s.seen, s.done, s.place};
            return pick(all, what);
        }

        static int pick(int[] all, int what) {
            if (what < 0 || what >= all.length) {
                throw new NoSuchElementException();
            }
            return all[what];
        }

        int piece(int n, int k, int what) {
            Piece p = pieceOf(n, k);
            int[] b = bytesOf(n, k);
            return pick(new int[] {p.size(), p.depart, p.left, p.gone, b[10] * 256 + b[11]}, what);
        }

        static int folded(int[] b) {
            int sum = 0;
            for (int i = 0; i < b.length; i++) {
                sum += i % 2 == 0 ? b[i] * 256 : b[i];
            }
            while (sum > 65535) {
                sum = sum / 65536 + sum % 65536;
            }
            return sum;
        }

        int[] bytesOf(int n, int k) {
            Send s = st.sends.get(n);
            Piece p = s.pieces.get(k);
            int[] b = new int[p.size()];
            int where = s.place + k * s.cut;
            int kinds = 16 * s.flow + (k == 0 ? 1 : 0) + (k == s.pieces.size() - 1 ? 2 : 0);
            int[] w = {p.size(), (64 * n + k) % 65536, where / 65536, where % 65536, kinds, 0};
            for (int i = 0; i < 12; i++) {
                b[i] = i % 2 == 0 ? w[i / 2] / 256 : w[i / 2] % 256;
            }
            for (int i = 0; i < p.bytes; i++) {
                int j = k * s.cut + i;
                b[12 + i] = (j * j + 13 * j + 7 * n + s.flow) % 256;
            }
            int sum = 65535 - folded(b);
            b[10] = sum / 256;
            b[11] = sum % 256;
            return b;
        }

        int octet(int n, int k, int i) {
            pieceOf(n, k);
            int[] b = bytesOf(n, k);
            index(i >= 0 && i < b.length);
            return b[i];
        }

        int holder(int n, int i) {
            Send s = known(n);
            index(i >= 0 && i < s.length && s.pieces.size() > 0);
            int k = 0;
            while ((k + 1) * s.cut <= i) {
                k++;
            }
            return k;
        }

        void hasFlow(int f) {
            index(f >= 0 && f < st.flows.size());
        }

        List<int[]> rows() {
            return st.log.subList(Math.max(0, st.log.size() - 40), st.log.size());
        }

        List<int[]> rowsOf(int f) {
            List<int[]> mine = new ArrayList<>();
            for (int[] r : rows()) {
                if (r[2] == f) {
                    mine.add(r);
                }
            }
            return mine;
        }

        int jitter(int f) {
            List<int[]> r = rowsOf(f);
            if (r.size() < 3) {
                return -1;
            }
            List<Integer> gaps = new ArrayList<>();
            for (int i = 1; i < r.size(); i++) {
                gaps.add(r.get(i)[5] - r.get(i - 1)[5]);
            }
            gaps.sort(null);
            return gaps.get(gaps.size() - 1) - gaps.get(0);
        }

        int flow(int f, int what) {
            hasFlow(f);
            Flow x = st.flows.get(f);
            int gone = 0;
            int done = 0;
            for (Send s : st.sends) {
                for (Piece p : s.pieces) {
                    gone += s.flow == f && p.gone >= 0 ? p.bytes : 0;
                }
                done += s.flow == f && s.state == 2 ? 1 : 0;
            }
            return pick(new int[] {x.rate, x.first, x.paused ? 1 : 0, waitingOf(f), st.timed()[f], gone, done, jitter(f)}, what);
        }

        int burst(int f, int n) {
            hasFlow(f);
            need(n >= 1 && n <= 99);
            int most = 0;
            for (int[] from : rowsOf(f)) {
                int sum = 0;
                for (int[] r : rowsOf(f)) {
                    sum += r[5] >= from[5] && r[5] <= from[5] + n - 1 ? r[3] : 0;
                }
                most = Math.max(most, sum);
            }
            return most;
        }

        int done(int k, boolean time) {
            if (k < 0 || k >= Math.min(20, st.done.size())) {
                return -1;
            }
            return st.done.get(st.done.size() - 1 - k)[time ? 1 : 0];
        }

        int log(int k, int what) {
            pick(new int[8], what);
            return k < 0 || k >= rows().size() ? -1 : rows().get(k)[what];
        }

        int latest(int k) {
            List<Integer> order = new ArrayList<>();
            for (int i = 0; i < rows().size(); i++) {
                order.add(i);
            }
            List<int[]> r = rows();
            order.sort((a, b) -> Integer.compare(r.get(b)[6], r.get(a)[6]));
            return k < 0 || k >= order.size() ? -1 : order.get(k);
        }

        int merged(int f, boolean bytes) {
            hasFlow(f);
            List<int[]> spans = new ArrayList<>();
            for (int[] r : rowsOf(f)) {
                int[] top = spans.isEmpty() ? null : spans.get(spans.size() - 1);
                if (top != null && top[1] == r[7]) {
                    top[1] += r[3] - 12;
                } else {
                    spans.add(new int[] {r[7], r[7] + r[3] - 12});
                }
            }
            int most = 0;
            for (int[] s : spans) {
                most = Math.max(most, s[1] - s[0]);
            }
            return bytes ? most : spans.size();
        }

        int share(int f) {
            hasFlow(f);
            int mine = 0;
            int all = 0;
            for (int[] r : rows()) {
                mine += r[2] == f ? r[3] : 0;
                all += r[3];
            }
            return all == 0 ? 0 : mine * 100 / all;
        }

        int calendar(int n, int k) {
            need(n >= 1 && n <= 99 && k >= 0 && k <= 9999);
            int many = 0;
            for (Piece p : st.waiting()) {
                many += (k == 0 || p.depart >= st.time + k * n) && p.depart < st.time + k * n + n ? 1 : 0;
            }
            return many;
        }

        int delay(int f) {
            hasFlow(f);
            int sum = 0;
            for (int[] r : rowsOf(f)) {
                sum += r[6];
            }
            return rowsOf(f).isEmpty() ? -1 : 100 * sum / rowsOf(f).size();
        }

        int rest() {
            int most = -1;
            for (int i = 1; i < rows().size(); i++) {
                int[] a = rows().get(i - 1);
                int lastTick = a[5] + (a[3] + st.wire - 1) / st.wire - 1;
                most = Math.max(most, rows().get(i)[5] - lastTick - 1);
            }
            return most;
        }

        boolean finds(int n, int k, int i, int v) {
            pieceOf(n, k);
            int[] b = bytesOf(n, k);
            index(i >= 0 && i < b.length);
            need(v >= 0 && v <= 255);
            b[i] = v;
            return folded(b) != 65535;
        }

        int blind(int n, int k) {
            pieceOf(n, k);
            int[] b = bytesOf(n, k);
            int pairs = 0;
            for (int i = 0; i + 1 < b.length; i += 2) {
                for (int j = i + 2; j + 1 < b.length; j += 2) {
                    if (i != 10 && j != 10 && (b[i] != b[j] || b[i + 1] != b[j + 1])) {
                        pairs++;
                    }
                }
            }
            return pairs;
        }

        // -- on paper

        int works(int time) {
            need(time >= st.time && time <= 9999);
            State p = st.copy();
            while (p.time < time) {
                p.tickOnce();
            }
            return p.busy - st.busy;
        }

        int quiet() {
            State p = st.copy();
            while (p.time < 9999) {
                p.tickOnce();
                if (p.idle > st.idle) {
                    return p.time - 1;
                }
            }
            return -1;
        }

        int ends(int n) {
            Send s = known(n);
            if (s.state == 0 || s.state == 3) {
                return -1;
            }
            State p = st.copy();
            while (p.time < 9999 && p.sends.get(n).state != 2) {
                p.tickOnce();
            }
            return p.sends.get(n).done;
        }

        static boolean allDone(State p) {
            for (Send s : p.sends) {
                if (s.state == 1) {
                    return false;
                }
            }
            return true;
        }

        int last() {
            State p = st.copy();
            while (p.time < 9999 && !allDone(p)) {
                p.tickOnce();
            }
            return allDone(p) ? p.time : -1;
        }

        int least(int n, int time) {
            Send s = known(n);
            need(time >= 0 && time <= 9999);
            if (s.state != 1) {
                return -1;
            }
            for (int rate = 1; rate <= 999; rate++) {
                State p = st.copy();
                p.flows.get(s.flow).rate = rate;
                p.timed();
                while (p.time < time && p.sends.get(n).state != 2) {
                    p.tickOnce();
                }
                if (p.sends.get(n).state == 2 && p.sends.get(n).done <= time) {
                    return rate;
                }
            }
            return -1;
        }

        int queue(int k, boolean when) {
            if (k < 0) {
                return -1;
            }
            State p = st.copy();
            while (p.time < 9999 && p.log.size() <= st.log.size() + k) {
                p.tickOnce();
            }
            if (p.log.size() <= st.log.size() + k) {
                return -1;
            }
            int[] r = p.log.get(st.log.size() + k);
            return when ? r[5] : 64 * r[0] + r[1];
        }

        boolean back() {
            if (kept == null) {
                return false;
            }
            st = kept.copy();
            past.clear();
            return true;
        }

        int count(int what) {
            int held = 0;
            for (Send s : st.sends) {
                held += s.state == 2 && s.n >= st.reclaimed() ? 1 : 0;
            }
            int[] all = {st.ring, st.wire, st.batch, st.flows.size(), st.time, st.sends.size(), st.reclaimed(), st.open(),
                st.bells, st.seenSends - st.usefulBells, st.done.size(), st.early, held, st.busy, st.idle, st.starved,
                rows().size(), st.wireSend >= 0 ? 1 : 0, past.size()};
            return what < 0 || what >= all.length ? -1 : all[what];
        }
    }

    // ---- the runs ----

    static CardCutter real;
    static Model model;
    static StringBuilder story;
    static Random dice;
    static boolean brisk;

    static String outcome(LongSupplier call) {
        try {
            return Long.toString(call.getAsLong());
        } catch (IllegalArgumentException | IllegalStateException | IndexOutOfBoundsException | NoSuchElementException e) {
            return e.getClass().getSimpleName();
        }
    }

    static void same(String name, LongSupplier a, LongSupplier b) {
        String want = outcome(b);
        String got = outcome(a);
        compared++;
        story.append(name).append(" -> ").append(got).append('\n');
        if (!got.equals(want)) {
            wrong++;
            if (wrong < 4) {
                System.out.println("due is " + want + " at the end of:\n" + story);
            }
        }
    }

    static int any(int lo, int hi) {
        return lo + dice.nextInt(hi - lo + 1);
    }

    static int oneOf(int... v) {
        return v[dice.nextInt(v.length)];
    }

    static int anySend() {
        int top = model.st.sends.size();
        return dice.nextInt(12) == 0 ? any(-1, top + 1) : Math.max(0, top - any(1, Math.max(1, model.st.ring)));
    }

    static int anyFlow() {
        int top = model.st.flows.size();
        return dice.nextInt(15) == 0 ? any(-1, 6) : top == 0 ? 0 : any(0, top - 1);
    }

    static int anyPiece(int n) {
        int top = n >= 0 && n < model.st.sends.size() ? model.st.sends.get(n).pieces.size() : 0;
        return dice.nextInt(15) == 0 ? any(-1, top + 1) : top == 0 ? 0 : any(0, top - 1);
    }

    static int anyRate() {
        if (brisk) {
            return oneOf(0, 0, 999, any(300, 999));
        }
        return oneOf(0, 1, 5, 17, 50, 100, 333, 999, any(0, 999), any(20, 200), any(20, 200));
    }

    static int anyLength() {
        return oneOf(1, 200, any(1, 200), any(1, 60), any(1, 30));
    }

    static int anyCut() {
        return oneOf(10, 100, any(10, 100), any(10, 30));
    }

    static int anyAt() {
        if (brisk && dice.nextInt(8) > 0) {
            return 0;
        }
        return dice.nextInt(3) > 0 ? 0 : dice.nextInt(10) == 0 ? any(0, 9999) : Math.min(9999, model.st.time + any(0, 60));
    }

    static String actText() {
        switch (any(0, 11)) {
            case 0: case 1: return "flow " + anyRate() + (dice.nextBoolean() ? " from " + any(0, 9999) : "");
            case 2: case 3: case 4: case 5:
                return "send " + Math.max(0, anyFlow()) + " " + anyLength() + " " + anyCut() + (dice.nextBoolean() ? " at " + anyAt() : "");
            case 6: return "bell";
            case 7: return dice.nextInt(4) == 0 ? "drop " + Math.max(0, anySend()) : "bell";
            case 8: return dice.nextInt(4) == 0 ? (dice.nextBoolean() ? "pause " : "go ") + any(0, 2) : "tick 7";
            case 9: return "rate " + Math.max(0, anyFlow()) + " " + anyRate();
            case 10: return "tick " + any(1, 99);
            default: return dice.nextInt(8) == 0 ? "card " + any(1, 8) + " " + any(1, 40) + " " + any(1, 8) : "tick " + any(1, 9);
        }
    }

    static String anyText(boolean start) {
        StringBuilder t = new StringBuilder();
        if (start) {
            t.append("card " + any(1, 8) + " " + (brisk ? any(20, 40) : oneOf(1, 3, 10, 10, 25, 40, any(1, 40))) + " " + oneOf(1, 1, 2, 3, any(1, 8)));
            int flows = any(1, 6);
            for (int i = 0; i < flows; i++) {
                t.append(";flow " + anyRate() + (dice.nextInt(3) == 0 ? " from " + oneOf(0, 1, 9999, any(0, 9999)) : ""));
            }
            return t.toString();
        }
        int many = dice.nextInt(12) == 0 ? any(13, 16) : any(0, 4);
        for (int i = 0; i < many; i++) {
            t.append(i == 0 ? "" : oneOf(0, 1) == 0 ? ";" : " ; ").append(many > 12 ? "bell" : actText());
        }
        int changes = dice.nextInt(3) == 0 ? any(1, 2) : 0;
        String signs = "abcdefghijklmnopqrstuvwxyz0123456789;;;   A\u00e9\n-";
        for (int i = 0; i < changes; i++) {
            int where = any(0, t.length());
            char sign = signs.charAt(dice.nextInt(signs.length()));
            switch (any(0, 2)) {
                case 0: t.insert(where, sign); break;
                case 1: if (where < t.length()) { t.setCharAt(where, sign); } break;
                default: if (where < t.length()) { t.deleteCharAt(where); } break;
            }
        }
        return t.toString();
    }

    static void tellText(String text) {
        for (int i = 0; i < text.length(); i += 20) {
            int[] v = new int[5];
            for (int j = 0; j < 20; j++) {
                char c = i + j < text.length() ? text.charAt(i + j) : 0;
                v[j / 4] = v[j / 4] << 8 | c;
            }
            same("feed" + Arrays.toString(v), () -> real.feed(v[0], v[1], v[2], v[3], v[4]), () -> model.feed(v));
        }
        int n = text.length();
        same("end " + n, () -> real.end(n) ? 1 : 0, () -> model.end(n) ? 1 : 0);
        same("acts \"" + text + "\"", () -> real.acts(), () -> model.acts());
        same("fault", () -> real.fault(), () -> model.fault);
    }

    static void anyAct() {
        int f = anyFlow();
        switch (any(0, 13)) {
            case 0: case 1: case 2: case 3: case 4: {
                int l = dice.nextInt(30) == 0 ? oneOf(-1, 0, 201) : anyLength();
                int c = dice.nextInt(30) == 0 ? oneOf(-1, 9, 101) : anyCut();
                int a = dice.nextInt(30) == 0 ? oneOf(-1, 10000) : anyAt();
                same("send " + f + " " + l + " " + c + " " + a, () -> real.send(f, l, c, a), () -> model.send(f, l, c, a));
                break;
            }
            case 5: same("bell", () -> real.bell(), () -> model.act(() -> model.st.ring())); break;
            case 6: {
                int n = anySend();
                same("drop " + n, () -> real.drop(n), () -> model.act(() -> model.doDrop(n)));
                break;
            }
            case 7: {
                boolean go = dice.nextBoolean();
                if (dice.nextInt(2) == 0) {
                    same("pause " + f + " " + go, () -> real.pause(f, go), () -> model.act(() -> model.doPause(f, !go)));
                }
                break;
            }
            case 8: {
                int r = dice.nextInt(20) == 0 ? oneOf(-1, 1000) : anyRate();
                same("rate " + f + " " + r, () -> real.rate(f, r), () -> model.rate(f, r));
                break;
            }
            case 9: case 10: case 11: {
                int n = oneOf(1, 2, 5, 20, any(1, 99), any(1, 30), dice.nextInt(10) == 0 ? oneOf(-1, 0, 100) : 3);
                same("tick " + n, () -> real.tick(n), () -> model.tick(n));
                break;
            }
            case 12: if (dice.nextInt(3) == 0) { same("undo", () -> real.undo(), () -> model.undo()); } break;
            default:
                switch (any(0, 7)) {
                    case 0: real.image(); model.kept = model.st.copy(); story.append("image\n"); break;
                    case 1: same("back", () -> real.back() ? 1 : 0, () -> model.back() ? 1 : 0); break;
                    default: tellText(anyText(false)); break;
                }
                break;
        }
        same("why", () -> real.why(), () -> model.why);
    }

    static void askRows() {
        int f = anyFlow();
        int k = any(-1, 41);
        int d = any(-1, 21);
        int w = any(-1, 8);
        int n = oneOf(1, 2, 5, 20, 99, any(0, 100));
        boolean b = dice.nextBoolean();
        same("log " + k + " " + w, () -> real.log(k, w), () -> model.log(k, w));
        same("latest " + k, () -> real.latest(k), () -> model.latest(k));
        same("done " + d + " " + b, () -> real.done(d, b), () -> model.done(d, b));
        same("burst " + f + " " + n, () -> real.burst(f, n), () -> model.burst(f, n));
        same("merged " + f + " " + b, () -> real.merged(f, b), () -> model.merged(f, b));
        same("share " + f, () -> real.share(f), () -> model.share(f));
        same("delay " + f, () -> real.delay(f), () -> model.delay(f));
        same("rest", () -> real.rest(), () -> model.rest());
        same("flow " + f + " " + w, () -> real.flow(f, w), () -> model.flow(f, w));
        same("flow " + f + " 4", () -> real.flow(f, 4), () -> model.flow(f, 4));
        int c = oneOf(0, 0, 1, 2, 3, any(-1, 10000));
        same("calendar " + n + " " + c, () -> real.calendar(n, c), () -> model.calendar(n, c));
    }

    static void askSend() {
        int n = anySend();
        int p = anyPiece(n);
        int w = any(-1, 9);
        int i = any(-1, 115);
        int v = dice.nextInt(10) == 0 ? oneOf(-1, 256) : any(0, 255);
        same("told " + n + " " + w, () -> real.told(n, w), () -> model.told(n, w));
        same("piece " + n + " " + p + " " + w, () -> real.piece(n, p, w), () -> model.piece(n, p, w));
        same("piece " + n + " " + p + " 4", () -> real.piece(n, p, 4), () -> model.piece(n, p, 4));
        same("octet " + n + " " + p + " " + i, () -> real.octet(n, p, i), () -> model.octet(n, p, i));
        same("holder " + n + " " + i, () -> real.holder(n, i), () -> model.holder(n, i));
        same("finds " + n + " " + p + " " + i + " " + v, () -> real.finds(n, p, i, v) ? 1 : 0, () -> model.finds(n, p, i, v) ? 1 : 0);
        String same = outcome(() -> model.octet(n, p, i));
        if (!same.startsWith("I")) {
            int u = Integer.parseInt(same);
            same("finds " + n + " " + p + " " + i + " " + u, () -> real.finds(n, p, i, u) ? 1 : 0, () -> model.finds(n, p, i, u) ? 1 : 0);
        }
        same("blind " + n + " " + p, () -> real.blind(n, p), () -> model.blind(n, p));
    }

    static void askPaper() {
        int n = anySend();
        int k = oneOf(0, 0, 1, 2, any(-1, 12), any(0, 170));
        boolean b = dice.nextBoolean();
        int t = Math.min(10000, model.st.time + oneOf(-1, 0, 1, any(0, 40), any(0, 400)));
        switch (any(0, 5)) {
            case 0: same("ends " + n, () -> real.ends(n), () -> model.ends(n)); break;
            case 1: same("last", () -> real.last(), () -> model.last()); break;
            case 2: same("quiet", () -> real.quiet(), () -> model.quiet()); break;
            case 3: same("works " + t, () -> real.works(t), () -> model.works(t)); break;
            case 4: same("queue " + k + " " + b, () -> real.queue(k, b), () -> model.queue(k, b)); break;
            default: same("first " + b, () -> real.first(b), () -> model.queue(0, b)); break;
        }
        if (dice.nextInt(40) == 0) {
            int until = Math.min(model.st.time + any(1, 120), 9999);
            same("least " + n + " " + until, () -> real.least(n, until), () -> model.least(n, until));
        }
        if (dice.nextInt(40) == 0) {
            int until = oneOf(-1, 0, 10000, model.st.time);
            same("least " + n + " " + until, () -> real.least(n, until), () -> model.least(n, until));
        }
    }

    static void oneRun(int seed) {
        dice = new Random(seed);
        brisk = dice.nextBoolean();
        real = new CardCutter();
        model = new Model();
        story = new StringBuilder("run " + seed + "\n");
        if (dice.nextInt(10) > 0) {
            tellText(anyText(true));
        }
        boolean late = dice.nextInt(10) == 0;
        for (int i = 0; late && i < 101 - any(0, 2); i++) {
            same("tick 99", () -> real.tick(99), () -> model.tick(99));
        }
        int many = any(20, 120);
        for (int i = 0; i < many; i++) {
            anyAct();
            int asks = dice.nextInt(4);
            for (int j = 0; j < asks; j++) {
                int what = any(-1, 19);
                same("count " + what, () -> real.count(what), () -> model.count(what));
                switch (any(0, 2)) {
                    case 0: askRows(); break;
                    case 1: askSend(); break;
                    default: askPaper(); break;
                }
            }
        }
        for (int w = 0; w < 19; w++) {
            int what = w;
            same("count " + what, () -> real.count(what), () -> model.count(what));
        }
    }

    /** Several sends of several flows at once, and many times asked for, against every rate in turn. */
    static void leastRun(int seed) {
        dice = new Random(seed);
        brisk = false;
        real = new CardCutter();
        model = new Model();
        story = new StringBuilder("least run " + seed + "\n");
        StringBuilder text = new StringBuilder("card 8 " + any(3, 40) + " " + any(1, 4));
        int flows = any(1, 3);
        for (int i = 0; i < flows; i++) {
            text.append(";flow " + oneOf(0, 100, any(1, 999)));
        }
        tellText(text.toString());
        for (int i = 0; i < 8; i++) {
            int f = any(0, flows - 1);
            int l = any(1, 120);
            int c = any(10, 60);
            int a = any(0, 30);
            same("send", () -> real.send(f, l, c, a), () -> model.send(f, l, c, a));
            if (dice.nextInt(4) == 0) {
                int n = any(1, 12);
                same("tick " + n, () -> real.tick(n), () -> model.tick(n));
            }
        }
        same("bell", () -> real.bell(), () -> model.act(() -> model.st.ring()));
        for (int i = 0; i < 12; i++) {
            int n = any(0, 7);
            int t = model.st.time + any(2, 90);
            same("least " + n + " " + t, () -> real.least(n, t), () -> model.least(n, t));
        }
    }

    public static void main(String[] args) {
        int from = args.length > 0 ? Integer.parseInt(args[0]) : 0;
        int runs = args.length > 1 ? Integer.parseInt(args[1]) : RUNS;
        for (int seed = from; seed < from + runs && wrong == 0; seed++) {
            oneRun(seed);
        }
        for (int seed = from; seed < from + runs / 50 && wrong == 0; seed++) {
            leastRun(seed);
        }
        System.out.println("model: " + compared + " answers compared, " + wrong + " wrong");
        if (wrong != 0) {
            System.exit(1);
        }
    }
}
