import java.io.IOException;
import java.nio.file.Files;
import java.nio.file.Path;
import java.util.NoSuchElementException;
import java.util.TreeSet;
import java.util.function.LongSupplier;

/**
 * What the edge tests share. A test is a block that begins with says(..): the sentence of the document that it stands
 * for, word by word, and where that stands. Each has an object of its own.
 */
class Asked {
    static final long INDEX = -1001;
    static final long ARGUMENT = -1002;
    static final long STATE = -1003;
    static final long ELEMENT = -1004;
    private static final long ANOTHER = -1999;
    private static final Path DOCUMENT = Path.of("../shared/DOC.md");

    static CardCutter x;

    private static String document = null;
    private static String where = "";
    private static String sentence = "";
    private static int sentences = 0;
    private static int asked = 0;
    private static int wrong = 0;
    private static final TreeSet<Integer> promises = new TreeSet<>();

    /** Begins a block for a sentence of the terms, and the promise that most hangs on it. */
    static void terms(int number, String words) {
        begin("promise " + number + ", terms", words);
    }

    /** Begins a block for a sentence of a promise. */
    static void promise(int number, String words) {
        promises.add(number);
        begin("promise " + number, words);
    }

    private static void begin(String newWhere, String words) {
        where = newWhere;
        sentence = words;
        sentences++;
        x = new CardCutter();
        if (document == null) {
            document = readDocument();
        }
        if (!document.isEmpty() && !document.contains(words)) {
            fail("the document does not say so");
        }
    }

    private static String readDocument() {
        try {
            return Files.exists(DOCUMENT) ? Files.readString(DOCUMENT) : "";
        } catch (IOException e) {
            return "";
        }
    }

    private static void fail(String text) {
        wrong++;
        System.out.println(where + " (\"" + sentence + "\"): " + text);
    }

    static void due(String call, long got, long want) {
        asked++;
        if (got != want) {
            fail(call + " answered " + got + ", due is " + want);
        }
    }

    static void due(String call, boolean got, boolean want) {
        due(call, got ? 1 : 0, want ? 1 : 0);
    }

    static void alike(String what, String got, String want) {
        asked++;
        if (!got.equals(want)) {
            int i = 0;
            while (i < got.length() && i < want.length() && got.charAt(i) == want.charAt(i)) {
                i++;
            }
            int from = Math.max(0, i - 40);
            fail(what + ": is '.." + got.substring(from, Math.min(got.length(), i + 20)) + "..', due is '.."
                + want.substring(from, Math.min(want.length(), i + 20)) + "..'");
        }
    }

    /** The answer, or the number of the exception's class. */
    static long of(LongSupplier call) {
        try {
            return call.getAsLong();
        } catch (RuntimeException e) {
            if (e.getClass() == IndexOutOfBoundsException.class) {
                return INDEX;
            } else if (e.getClass() == IllegalArgumentException.class) {
                return ARGUMENT;
            } else if (e.getClass() == IllegalStateException.class) {
                return STATE;
            }
            return e.getClass() == NoSuchElementException.class ? ELEMENT : ANOTHER;
        }
    }

    static void feedAll(String text) {
        for (int i = 0; i < text.length(); i += 20) {
            int[] v = new int[5];
            for (int j = 0; j < 20; j++) {
                v[j / 4] = v[j / 4] << 8 | (i + j < text.length() ? text.charAt(i + j) : 0);
            }
            x.feed(v[0], v[1], v[2], v[3], v[4]);
        }
        x.end(text.length());
    }

    static long tell(String text) {
        feedAll(text);
        return of(() -> x.acts());
    }

    /** A new object, and a text that is right. */
    static void make(String text) {
        x = new CardCutter();
        due("acts of '" + text + "' are done", tell(text) > 0, true);
    }

    static void right(String text, int acts) {
        due("acts of '" + text + "'", tell(text), acts);
        due("fault of '" + text + "'", x.fault(), -1);
    }

    /** A text that is wrong at a byte, by no refusal: all stays, WHY too; the TAPE is used up. */
    static void wrongAt(String text, int at) {
        wrongBy(text, at, x.why());
    }

    /** A text that is wrong at a byte, since an act is refused there. */
    static void wrongBy(String text, int at, int why) {
        String ahead = all();
        due("acts of '" + text + "'", tell(text), ARGUMENT);
        due("fault of '" + text + "'", x.fault(), at);
        due("why of '" + text + "'", x.why(), why);
        due("tape behind '" + text + "'", tape(), 0);
        alike("behind '" + text + "'", all(), ahead);
    }

    /** A call of an act that is refused: nothing changes but WHY. */
    static void refused(String call, LongSupplier act, int why) {
        throwing(call, act, STATE, why);
    }

    /** A call that throws and changes nothing at all. */
    static void none(String call, LongSupplier act, long exception) {
        throwing(call, act, exception, x.why());
    }

    private static void throwing(String call, LongSupplier act, long exception, int why) {
        String ahead = all();
        int fault = x.fault();
        int tape = tape();
        due(call, of(act), exception);
        due(call + ", then why", x.why(), why);
        due(call + ", then fault", x.fault(), fault);
        due(call + ", then the tape", tape(), tape);
        alike(call + ", then all", all(), ahead);
    }

    /** A call that is only asked: it answers, and changes nothing. */
    static void asks(String call, LongSupplier query, long want) {
        String ahead = all();
        int why = x.why();
        due(call, of(query), want);
        due(call + ", then why", x.why(), why);
        alike(call + ", then all", all(), ahead);
    }

    /** How long the TAPE is: the greatest end that is none too many changes nothing. */
    static int tape() {
        int n = 400;
        while (n > 0 && !x.end(n)) {
            n--;
        }
        return n;
    }

    static void toTime(int time) {
        while (x.count(4) < time) {
            x.tick(Math.min(99, time - x.count(4)));
        }
    }

    /** More sends than slots, more rows and done ones than are kept, all flows; no count is 0. */
    static void busy() {
        make("card 8 40 2;flow 0 from 5;flow 90;flow 0;flow 7;flow 0;flow 0 from 9999");
        for (int i = 0; i < 15; i++) {
            right("send 0 25 10;send 1 15 10 at " + 9 * i + ";tick 8", 3);
        }
        right("send 2 9 10;send 4 30 15;pause 2;send 4 1 10;bell;tick 8;send 3 40 10;send 5 99 100;tick 2", 9);
        x.send(0, 12, 10, 0);
        x.tick(1);
        for (int what = 0; what < 19; what++) {
            due("count " + what + " is none of 0", x.count(what) > 0, true);
        }
    }

    /** All, some acts later: by this is seen what cannot be asked for yet. */
    static String later() {
        right("send 0 33 10;bell;tick 20;rate 0 17;tick 2;send 1 5 10", 6);
        x.tick(30);
        return all();
    }

    /**
     * All that can be asked but WHY, the TAPE, fault() and THE IMAGE. It takes more calls than the 512 that the
     * document speaks of; the class counts no calls.
     */
    static String all() {
        StringBuilder all = new StringBuilder();
        for (int what = 0; what < 19; what++) {
            all.append(" count").append(what).append('=').append(x.count(what));
        }
        for (int flow = 0; flow < x.count(3); flow++) {
            addFlow(all, flow);
        }
        for (int send = Math.max(0, x.count(5) - x.count(0)); send < x.count(5); send++) {
            addSend(all, send);
        }
        for (int row = 0; row < x.count(16); row++) {
            all.append("\nrow ").append(row).append(':');
            for (int what = 0; what < 8; what++) {
                all.append(' ').append(x.log(row, what));
            }
            all.append(" latest ").append(x.latest(row));
        }
        for (int k = 0; k < 20; k++) {
            all.append("\ndone ").append(x.done(k, false)).append(" at ").append(x.done(k, true));
            all.append(" calendar ").append(x.calendar(7, k));
        }
        for (int k = 0; k < 160 && x.queue(k, true) >= 0; k++) {
            all.append("\nqueue ").append(x.queue(k, false)).append(" at ").append(x.queue(k, true));
        }
        all.append("\nlast ").append(x.last()).append(" first ").append(x.first(false)).append(' ').append(
            x.first(true)).append(" quiet ").append(x.quiet()).append(" works ").append(x.works(9999)).append(
            " rest ").append(x.rest());
        return all.toString();
    }

    private static void addFlow(StringBuilder all, int flow) {
        all.append("\nflow ").append(flow).append(':');
        for (int what = 0; what < 8; what++) {
            all.append(' ').append(x.flow(flow, what));
        }
        all.append(" burst ").append(x.burst(flow, 1)).append(' ').append(x.burst(flow, 99)).append(" merged ").append(
            x.merged(flow, false)).append(' ').append(x.merged(flow, true)).append(" share ").append(
            x.share(flow)).append(" delay ").append(x.delay(flow));
    }

    private static void addSend(StringBuilder all, int send) {
        all.append("\nsend ").append(send).append(':');
        for (int what = 0; what < 9; what++) {
            all.append(' ').append(x.told(send, what));
        }
        all.append(" ends ").append(x.ends(send)).append(" least ").append(x.least(send, 9999));
        for (int piece = 0; piece < x.told(send, 5); piece++) {
            all.append("\n piece ").append(piece).append(':');
            for (int what = 0; what < 5; what++) {
                all.append(' ').append(x.piece(send, piece, what));
            }
            all.append(" blind ").append(x.blind(send, piece));
        }
    }

    /** Tells how it went, and ends with exit code 1 if an answer was wrong. */
    static void finish(String name, int firstPromise, int lastPromise) {
        for (int number = firstPromise; number <= lastPromise; number++) {
            if (!promises.contains(number)) {
                where = "promise " + number;
                sentence = "";
                fail("has no test");
            }
        }
        System.out.println(name + ": " + sentences + " sentences, " + asked + " answers asked, " + wrong + " wrong");
        if (wrong != 0) {
            System.exit(1);
        }
    }
}
