import java.util.function.IntUnaryOperator;

/** The boundary cases that the promises themselves name, 1 to 39: none, NONE, throws, and what a call answers then. */
public final class PromiseEdgeTest extends Asked {
    static final int MOST = Integer.MAX_VALUE;
    static final int LEAST = Integer.MIN_VALUE;

    /** Whats from 0 on are answered, those beyond on both sides throw. */
    static void whats(String call, int many, IntUnaryOperator query) {
        for (int w = 0; w < many; w++) {
            int what = w;
            due(call + " " + what + " answers", of(() -> query.applyAsInt(what)) > -1000, true);
        }
        for (int what : new int[] {-1, many, many + 1, MOST, LEAST}) {
            none(call + " " + what, () -> query.applyAsInt(what), ELEMENT);
        }
    }

    /** Numbers for which there is no flow, the card having some. */
    static int[] noFlows() {
        return new int[] {x.count(3), -1, 6, MOST, LEAST};
    }

    /** Numbers for which there is no known send. */
    static int[] noSends() {
        return new int[] {x.count(5), x.count(5) - x.count(0) - 1, -1, MOST, LEAST};
    }

    static void newObject() {
        promise(1, "No FLOWS.");
        due("flows", x.count(3), 0);
        none("flow 0", () -> x.flow(0, 0), INDEX);
        refused("send", () -> x.send(0, 1, 10, 0), 2);
        for (int what = 4; what < 19; what++) {
            due("count " + what, x.count(what), 0);
        }
    }

    static void feeds() {
        promise(2, "Twenty bytes come behind the TAPE, of each number the highest first: how many it has");
        due("feed", x.feed(0x62656c6c, 0x3b62656c, 0x6c3b7469, 0x636b2039, 0x393b6265), 20);
        due("feed", x.feed(0x6c6c2020, 0x20202020, 0x20202020, 0x20202020, 0x20202020), 40);
        due("acts", of(() -> x.acts()), 4);
        due("time", x.count(4), 99);
        due("the sign bit", x.feed(0xff000000, 0, 0, 0, 0x000000ff), 20);
        due("acts", of(() -> x.acts()), ARGUMENT);
        promise(2, "NONE, and none come, if it would have more than 400");
        for (int n = 20; n <= 400; n += 20) {
            due("feed", x.feed(0x20202020, 0x20202020, 0x20202020, 0x20202020, 0x20202020), n);
        }
        due("420", x.feed(0x78787878, 0, 0, 0, 0), -1);
        due("none came", tape(), 400);
        x.end(381);
        due("401", x.feed(0x78787878, 0, 0, 0, 0), -1);
        due("none came", tape(), 381);
        due("all are blanks", of(() -> x.acts()), 0);
        for (int n = 20; n <= 380; n += 20) {
            x.feed(0x20202020, 0x20202020, 0x20202020, 0x20202020, 0x20202020);
        }
        due("400", x.feed(0x20202020, 0x20202020, 0x20202020, 0x20202020, 0x2020203b), 400);
        due("acts", of(() -> x.acts()), ARGUMENT);
        due("the 400th byte", x.fault(), 399);
    }

    static void ends() {
        promise(3, "The TAPE has its first n bytes alone: true");
        x.feed(0x62656c6c, 0x3b78, 0, 0, 0);
        due("end 20", x.end(20), true);
        due("end 5", x.end(5), true);
        due("end 4", x.end(4), true);
        due("acts", of(() -> x.acts()), 1);
        promise(3, "false, and nothing happens, if it has fewer, or n is below 0");
        due("end 0 of an empty tape", x.end(0), true);
        due("end 1 of an empty tape", x.end(1), false);
        x.feed(0x62656c6c, 0x20202020, 0x20202020, 0x20202020, 0x20202020);
        for (int n : new int[] {21, 400, 401, -1, MOST, LEAST}) {
            due("end " + n, x.end(n), false);
            due("the tape behind end " + n, tape(), 20);
        }
        due("acts", of(() -> x.acts()), 1);
        x.feed(0x78787878, 0, 0, 0, 0);
        due("end 0", x.end(0), true);
        due("acts of none", of(() -> x.acts()), 0);
    }

    static void acts() {
        promise(4, "Uses the TAPE up: ACTS are told, and done: how many.");
        due("of an empty tape", of(() -> x.acts()), 0);
        right("bell", 1);
        due("used up", tape(), 0);
        due("then none", of(() -> x.acts()), 0);
        right("bell;".repeat(13) + "bell", 14);
        due("bells", x.count(8), 15);
        promise(4, "IllegalArgumentException: the text is wrong.");
        wrongAt("bell;", 5);
        due("bells", x.count(8), 0);
        due("used up", tape(), 0);
        due("then none", of(() -> x.acts()), 0);
        promise(5, "The first wrong byte of the latest text that was read; NONE without one, and ahead of any.");
        due("ahead of any", x.fault(), -1);
        wrongAt("x", 0);
        wrongAt("bell;x", 5);
        feedAll("bell");
        due("not read yet", x.fault(), 5);
        due("acts", of(() -> x.acts()), 1);
        due("right", x.fault(), -1);
        wrongAt(" ".repeat(399) + "x", 399);
        right("", 0);
        due("no acts, but right", x.fault(), -1);
        wrongBy("drop 0", 0, 4);
        due("refused by a call", of(() -> x.drop(5)), STATE);
        due("fault stays", x.fault(), 0);
        promise(6, "WHY.");
        due("at first", x.why(), 0);
        wrongBy("flow 1;drop 0", 7, 4);
        due("why", x.why(), 4);
        due("bell", x.bell(), 0);
        due("why", x.why(), 0);
    }

    static void sends() {
        promise(7, "SEND: its number.");
        make("card 8 10 8;flow 0");
        for (int n = 0; n < 8; n++) {
            due("send", of(() -> x.send(0, 1, 10, 0)), n);
        }
        promise(7, "IllegalArgumentException: LENGTH, CUT or AT is none");
        make("card 8 10 1;flow 0");
        int[][] none = {{0, 10, 0}, {201, 10, 0}, {-1, 10, 0}, {MOST, 10, 0}, {LEAST, 10, 0}, {1, 9, 0}, {1, 101, 0},
            {1, 0, 0}, {1, -10, 0}, {1, MOST, 0}, {1, LEAST, 0}, {1, 10, -1}, {1, 10, 10000}, {1, 10, MOST},
            {1, 10, LEAST}};
        for (int[] n : none) {
            none("send " + n[0] + " " + n[1] + " " + n[2], () -> x.send(0, n[0], n[1], n[2]), ARGUMENT);
        }
        int[][] right = {{1, 10, 0}, {200, 10, 0}, {1, 100, 0}, {1, 10, 9999}, {200, 100, 9999}};
        for (int[] r : right) {
            due("send " + r[0] + " " + r[1] + " " + r[2], of(() -> x.send(0, r[0], r[1], r[2])) >= 0, true);
            int n = x.count(5) - 1;
            due("length", x.told(n, 1), r[0]);
            due("cut", x.told(n, 2), r[1]);
            due("at", x.told(n, 3), r[2]);
        }
        promise(7, "IllegalStateException: refused.");
        make("card 1 10 1;flow 0");
        refused("no flow", () -> x.send(1, 1, 10, 0), 2);
        due("send", of(() -> x.send(0, 1, 10, 0)), 0);
        refused("no slot", () -> x.send(0, 1, 10, 0), 3);
        due("posted", x.count(5), 1);
    }

    static void bellsAndDrops() {
        promise(8, "BELL: how many are SEEN by it.");
        make("card 8 10 8;flow 0");
        due("none", x.bell(), 0);
        for (int n = 0; n < 7; n++) {
            x.send(0, 1, 10, 0);
        }
        due("seven", x.bell(), 7);
        due("none any more", x.bell(), 0);
        x.send(0, 1, 10, 0);
        x.drop(7);
        due("a dropped one is not", x.bell(), 0);
        promise(9, "DROP: how many PIECES it had. IllegalStateException: refused.");
        make("card 8 10 2;flow 0");
        x.send(0, 200, 10, 0);
        due("posted: none", of(() -> x.drop(0)), 0);
        x.send(0, 200, 10, 0);
        x.send(0, 1, 10, 0);
        due("the most", of(() -> x.drop(1)), 20);
        due("the least", of(() -> x.drop(2)), 1);
        for (int n : noSends()) {
            refused("drop " + n, () -> x.drop(n), 4);
        }
        refused("dropped", () -> x.drop(2), 4);
        promise(10, "PAUSE, or GO (go): how many PIECES of that FLOW did not leave. IllegalStateException: refused.");
        make("card 8 10 2;flow 0;flow 0;send 0 30 10");
        due("not seen: none", of(() -> x.pause(0, false)), 0);
        x.send(1, 200, 10, 0);
        due("go", of(() -> x.pause(0, true)), 3);
        x.tick(1);
        due("one left", of(() -> x.pause(0, false)), 2);
        due("the other flow", of(() -> x.pause(1, false)), 20);
        x.drop(1);
        due("dropped", of(() -> x.pause(1, true)), 0);
        refused("go", () -> x.pause(1, true), 5);
        refused("pause", () -> x.pause(0, false), 5);
        for (int flow : noFlows()) {
            refused("pause " + flow, () -> x.pause(flow, false), 2);
        }
        promise(11, "RATE told: what it was.");
        make("flow 999");
        due("0", of(() -> x.rate(0, 0)), 999);
        due("999", of(() -> x.rate(0, 999)), 0);
        due("1", of(() -> x.rate(0, 1)), 999);
        due("rate", x.flow(0, 0), 1);
        promise(11, "IllegalArgumentException: it is none; IllegalStateException: refused.");
        make("flow 5");
        for (int rate : new int[] {-1, 1000, MOST, LEAST}) {
            none("rate " + rate, () -> x.rate(0, rate), ARGUMENT);
            none("rate " + rate + " of no flow", () -> x.rate(1, rate), ARGUMENT);
        }
        for (int flow : noFlows()) {
            refused("rate of flow " + flow, () -> x.rate(flow, 0), 2);
        }
    }

    static void ticks() {
        promise(12, "So many TICKS (1 to 99), as far as they can be: how many PIECES LEFT in these.");
        make("card 8 40 1;flow 0;send 0 200 10;send 0 200 10;send 0 200 10;send 0 200 10;send 0 200 10");
        due("1", of(() -> x.tick(1)), 1);
        due("99", of(() -> x.tick(99)), 99);
        due("time", x.count(4), 100);
        due("none is there", of(() -> x.tick(99)), 0);
        toTime(9998);
        x.send(0, 30, 10, 0);
        due("99 of which one can be", of(() -> x.tick(99)), 1);
        due("time", x.count(4), 9999);
        promise(12, "IllegalArgumentException: they are none; IllegalStateException: refused (none can be).");
        for (int n : new int[] {0, 100, -1, MOST, LEAST}) {
            none("tick " + n, () -> x.tick(n), ARGUMENT);
        }
        toTime(9998);
        due("one can be", of(() -> x.tick(1)), 0);
        refused("none can be", () -> x.tick(1), 6);
        none("no ticks", () -> x.tick(0), ARGUMENT);
        promise(13, "TAKEN BACK: how many ACTS are remembered then. IllegalStateException: there is none.");
        none("of a new object", () -> x.undo(), STATE);
        for (int n = 1; n <= 9; n++) {
            x.bell();
        }
        for (int n = 7; n >= 0; n--) {
            due("undo", of(() -> x.undo()), n);
            due("remembered", x.count(18), n);
        }
        due("the ninth is forgotten", x.count(8), 1);
        none("no more", () -> x.undo(), STATE);
        x.bell();
        due("one more", of(() -> x.undo()), 0);
        none("no more", () -> x.undo(), STATE);
    }

    static void tolds() {
        promise(14, "4 0 POSTED, 1 SEEN, 2 DONE, 3 DROPPED, 5 PIECES (0 of one that is POSTED, DROPPED), 6 when it"
            + " was SEEN, 7 when DONE (NONE), 8 PLACE (NONE of one that was not SEEN)");
        make("card 8 10 2;flow 0 from 9;tick 4;send 0 30 10");
        told(0, new int[] {0, 30, 10, 0, 0, 0, -1, -1, -1});
        x.drop(0);
        told(0, new int[] {0, 30, 10, 0, 3, 0, -1, -1, -1});
        x.send(0, 8, 10, 3);
        x.send(0, 20, 100, 9999);
        told(1, new int[] {0, 8, 10, 3, 1, 1, 4, -1, 9});
        told(2, new int[] {0, 20, 100, 9999, 1, 1, 4, -1, 17});
        x.tick(1);
        told(1, new int[] {0, 8, 10, 3, 1, 1, 4, -1, 9});
        x.tick(1);
        told(1, new int[] {0, 8, 10, 3, 2, 1, 4, 6, 9});
        x.drop(2);
        told(2, new int[] {0, 20, 100, 9999, 3, 0, 4, -1, 17});
        make("card 8 40 8;flow 0;tick 1");
        for (int n = 0; n < 8; n++) {
            x.send(0, 200, 10, 5);
        }
        x.tick(40);
        due("done", x.told(0, 4), 2);
        x.send(0, 7, 11, 0);
        told(8, new int[] {0, 7, 11, 0, 0, 0, -1, -1, -1});
        none("no piece of it", () -> x.piece(8, 0, 0), INDEX);
        promise(14, "NoSuchElementException: another what.");
        make("card 2 10 1;flow 0;send 0 1 10;drop 0;send 0 1 10;drop 1;send 0 1 10");
        whats("told", 9, what -> x.told(2, what));
        for (int n : noSends()) {
            none("told of " + n, () -> x.told(n, 0), INDEX);
        }
    }

    static void told(int send, int[] all) {
        for (int what = 0; what < all.length; what++) {
            due("told " + what, x.told(send, what), all[what]);
        }
    }

    static void pieces() {
        promise(15, "Of a PIECE of a KNOWN SEND what 0 SIZE, 1 DEPART, 2 when it LEFT, 3 when it was GONE (NONE), 4"
            + " SUM.");
        make("card 2 10 1;flow 0;send 0 15 10 at 3;tick 3");
        int sum = x.piece(0, 0, 4);
        pieceIs(0, 0, new int[] {22, 3, -1, -1, sum});
        x.tick(1);
        pieceIs(0, 0, new int[] {22, 3, 3, -1, sum});
        x.tick(2);
        pieceIs(0, 0, new int[] {22, 3, 3, 6, sum});
        pieceIs(0, 1, new int[] {17, 3, -1, -1, x.piece(0, 1, 4)});
        x.tick(2);
        pieceIs(0, 1, new int[] {17, 3, 6, 8, x.piece(0, 1, 4)});
        none("piece 2", () -> x.piece(0, 2, 0), INDEX);
        none("piece -1", () -> x.piece(0, -1, 0), INDEX);
        none("the greatest piece", () -> x.piece(0, MOST, 0), INDEX);
        none("the least piece", () -> x.piece(0, LEAST, 0), INDEX);
        x.send(0, 1, 10, 0);
        x.send(0, 1, 10, 0);
        for (int n : noSends()) {
            none("piece of send " + n, () -> x.piece(n, 0, 0), INDEX);
        }
        promise(15, "NoSuchElementException: another what.");
        make("flow 0;send 0 1 10");
        whats("piece", 5, what -> x.piece(0, 0, what));
        promise(16, "The k-th byte of a PIECE (0 to 255).");
        make("card 8 10 2;flow 0;send 0 15 10");
        none("posted", () -> x.octet(0, 0, 0), INDEX);
        x.bell();
        due("the first", of(() -> x.octet(0, 0, 0)), 0);
        due("the last of the first", of(() -> x.octet(0, 0, 21)), 81 + 117);
        none("no more", () -> x.octet(0, 0, 22), INDEX);
        due("the last of the last", of(() -> x.octet(0, 1, 16)), (14 * 14 + 13 * 14) % 256);
        none("no more", () -> x.octet(0, 1, 17), INDEX);
        for (int k : new int[] {-1, MOST, LEAST}) {
            none("byte " + k, () -> x.octet(0, 0, k), INDEX);
            none("piece " + k, () -> x.octet(0, k, 0), INDEX);
            none("send " + k, () -> x.octet(k, 0, 0), INDEX);
        }
        none("piece 2", () -> x.octet(0, 2, 0), INDEX);
        x.drop(0);
        none("dropped", () -> x.octet(0, 0, 0), INDEX);
        boolean zero = false;
        boolean most = false;
        make("card 8 40 1;flow 0;send 0 200 100;send 0 200 100");
        for (int i = 0; i < 400; i++) {
            int b = x.octet(i / 200, i / 100 % 2, 12 + i % 100);
            zero |= b == 0;
            most |= b == 255;
            due("a byte is 0 to 255", b >= 0 && b <= 255, true);
        }
        due("0 and 255 are there", zero && most, true);
    }

    static void pieceIs(int send, int piece, int[] all) {
        for (int what = 0; what < all.length; what++) {
            due("piece " + piece + ", " + what, x.piece(send, piece, what), all[what]);
        }
    }

    static void holders() {
        promise(17, "The PIECE of a KNOWN SEND that has the k-th byte of it.");
        make("card 3 10 2;flow 0;send 0 25 10");
        none("posted: no piece has it", () -> x.holder(0, 0), INDEX);
        x.bell();
        int[][] holders = {{0, 0}, {9, 0}, {10, 1}, {19, 1}, {20, 2}, {24, 2}};
        for (int[] h : holders) {
            asks("byte " + h[0], () -> x.holder(0, h[0]), h[1]);
        }
        for (int k : new int[] {25, 29, -1, MOST, LEAST}) {
            none("byte " + k, () -> x.holder(0, k), INDEX);
        }
        x.tick(9);
        due("done", of(() -> x.holder(0, 24)), 2);
        x.send(0, 20, 10, 0);
        x.drop(1);
        none("dropped", () -> x.holder(1, 0), INDEX);
        x.send(0, 200, 100, 0);
        x.send(0, 200, 10, 0);
        x.bell();
        due("byte 199 of 2", of(() -> x.holder(2, 199)), 1);
        due("byte 199 of 20", of(() -> x.holder(3, 199)), 19);
        none("byte 200", () -> x.holder(3, 200), INDEX);
        for (int n : noSends()) {
            none("send " + n, () -> x.holder(n, 0), INDEX);
        }
    }

    static void flows() {
        promise(18, "Of a FLOW what 0 RATE, 1 FIRST, 2 1 if PAUSED, 3 PIECES that did not leave, 4 NEXT behind all of"
            + " these, 5 bytes of its SENDS that are GONE (HEADS aside), 6 SENDS of it that are DONE, 7 JITTER"
            + " (NONE).");
        make("card 8 10 2;flow 10 from 5;flow 0");
        flowIs(new int[] {10, 5, 0, 0, 0, 0, 0, -1});
        x.send(0, 15, 10, 0);
        flowIs(new int[] {10, 5, 0, 0, 0, 0, 0, -1});
        x.bell();
        flowIs(new int[] {10, 5, 0, 2, 39, 0, 0, -1});
        x.tick(1);
        flowIs(new int[] {10, 5, 0, 1, 39, 0, 0, -1});
        x.tick(2);
        flowIs(new int[] {10, 5, 0, 1, 39, 10, 0, -1});
        x.tick(20);
        flowIs(new int[] {10, 5, 0, 0, 39, 10, 0, -1});
        x.tick(1);
        flowIs(new int[] {10, 5, 0, 0, 39, 15, 1, -1});
        x.pause(0, false);
        flowIs(new int[] {10, 5, 1, 0, 39, 15, 1, -1});
        promise(18, "NoSuchElementException: another what.");
        make("flow 0");
        whats("flow", 8, what -> x.flow(0, what));
        for (int flow : noFlows()) {
            none("flow " + flow, () -> x.flow(flow, 0), INDEX);
        }
    }

    static void flowIs(int[] all) {
        for (int what = 0; what < all.length; what++) {
            due("flow " + what, x.flow(0, what), all[what]);
        }
    }

    static void bursts() {
        promise(19, "BURST. IllegalArgumentException: n is none.");
        make("card 8 40 1;flow 0;send 0 1 10;tick 1");
        asks("1", () -> x.burst(0, 1), 13);
        asks("99", () -> x.burst(0, 99), 13);
        for (int n : new int[] {0, 100, -1, MOST, LEAST}) {
            none("burst of " + n, () -> x.burst(0, n), ARGUMENT);
        }
        for (int flow : noFlows()) {
            none("burst of flow " + flow, () -> x.burst(flow, 1), INDEX);
        }
        promise(20, "Of the k-th that was DONE (0 the latest) its number (time false), or when; NONE without.");
        make("card 8 40 1;flow 0;send 0 1 10;tick 1;send 0 1 10;tick 4");
        asks("0", () -> x.done(0, false), 1);
        asks("1", () -> x.done(1, false), 0);
        due("when 0", x.done(0, true), 2);
        due("when 1", x.done(1, true), 1);
        for (int k : new int[] {2, 20, -1, MOST, LEAST}) {
            due("done " + k, x.done(k, false), -1);
            due("when " + k, x.done(k, true), -1);
        }
        promise(21, "Of row k of THE LOG (0 the eldest)");
        make("card 8 40 1;flow 0 from 7;flow 0 from 9;send 1 15 10;send 0 2 10;tick 3");
        int[][] rows = {{0, 0, 1, 22, 0, 0, 0, 9}, {0, 1, 1, 17, 0, 1, 1, 19}, {1, 0, 0, 14, 0, 2, 2, 7}};
        for (int k = 0; k < rows.length; k++) {
            for (int what = 0; what < 8; what++) {
                due("row " + k + ", " + what, x.log(k, what), rows[k][what]);
            }
        }
        promise(21, "7 where its first byte is; NONE without. NoSuchElementException: another what.");
        make("flow 0;send 0 1 10;tick 1");
        for (int what = 0; what < 8; what++) {
            for (int k : new int[] {1, 40, -1, MOST, LEAST}) {
                due("row " + k + ", " + what, x.log(k, what), -1);
            }
        }
        whats("log", 8, what -> x.log(0, what));
        whats("log without", 8, what -> x.log(1, what));
    }

    static void latests() {
        promise(22, "The k-th of LOG rows by LATE, the greatest first, of like ones the eldest: its number in THE"
            + " LOG; NONE without.");
        due("no rows", x.latest(0), -1);
        make("card 8 10 1;flow 0;flow 0;send 0 24 10 at 1;send 1 8 10 at 20;send 0 8 10 at 22;send 1 8 10 at 23");
        x.tick(40);
        int[] late = {0, 3, 6, 0, 0, 1};
        for (int k = 0; k < late.length; k++) {
            due("late of row " + k, x.log(k, 6), late[k]);
        }
        int[] order = {2, 1, 5, 0, 3, 4};
        for (int k = 0; k < order.length; k++) {
            int at = k;
            asks("latest " + k, () -> x.latest(at), order[k]);
        }
        for (int k : new int[] {6, 40, -1, MOST, LEAST}) {
            due("latest " + k, x.latest(k), -1);
        }
        make("card 8 40 1;flow 0;send 0 200 10;send 0 200 10;send 0 200 10;tick 60");
        due("of 40 rows", x.latest(0), 39);
        due("the least of 40 rows", x.latest(39), 0);
        due("no more", x.latest(40), -1);
    }

    static void rows() {
        promise(23, "MERGED: how many (bytes false), or the most bytes.");
        make("card 8 40 1;flow 0;flow 0;send 0 25 10;tick 2");
        asks("how many", () -> x.merged(0, false), 1);
        asks("bytes", () -> x.merged(0, true), 20);
        asks("none", () -> x.merged(1, false), 0);
        asks("no bytes", () -> x.merged(1, true), 0);
        for (int flow : noFlows()) {
            none("merged of flow " + flow, () -> x.merged(flow, false), INDEX);
            none("bytes of flow " + flow, () -> x.merged(flow, true), INDEX);
        }
        promise(24, "SHARE.");
        make("card 8 40 1;flow 0;flow 0");
        asks("without rows", () -> x.share(0), 0);
        right("send 0 25 10;tick 2", 2);
        asks("all", () -> x.share(0), 100);
        asks("none", () -> x.share(1), 0);
        for (int flow : noFlows()) {
            none("share of flow " + flow, () -> x.share(flow), INDEX);
        }
        promise(25, "IllegalArgumentException: n is none, or k is below 0 or above 9999.");
        make("flow 0;send 0 1 10");
        due("least n", of(() -> x.calendar(1, 0)), 1);
        due("most n", of(() -> x.calendar(99, 0)), 1);
        due("most k", of(() -> x.calendar(1, 9999)), 0);
        due("most of both", of(() -> x.calendar(99, 9999)), 0);
        for (int n : new int[] {0, 100, -1, MOST, LEAST}) {
            none("n " + n, () -> x.calendar(n, 0), ARGUMENT);
        }
        for (int k : new int[] {-1, 10000, MOST, LEAST}) {
            none("k " + k, () -> x.calendar(1, k), ARGUMENT);
        }
        promise(26, "DELAY; NONE.");
        make("card 8 10 1;flow 0;flow 0;send 0 15 10;tick 4");
        asks("of rows", () -> x.delay(0), 150);
        asks("without", () -> x.delay(1), -1);
        for (int flow : noFlows()) {
            none("delay of flow " + flow, () -> x.delay(flow), INDEX);
        }
        promise(27, "REST; NONE.");
        due("no rows", x.rest(), -1);
        make("card 8 10 1;flow 0;send 0 8 10;send 0 8 10 at 3;tick 3");
        asks("one row", () -> x.rest(), -1);
        x.tick(1);
        asks("two rows", () -> x.rest(), 1);
    }

    static void queues() {
        promise(28, "QUEUE: the PIECE (when false), or when; NONE.");
        asks("of none", () -> x.queue(0, false), -1);
        asks("when", () -> x.queue(0, true), -1);
        make("card 8 10 1;flow 0;send 0 15 10");
        asks("0", () -> x.queue(0, false), 0);
        asks("when 0", () -> x.queue(0, true), 0);
        asks("1", () -> x.queue(1, false), 1);
        asks("when 1", () -> x.queue(1, true), 3);
        for (int k : new int[] {2, 3, 4, 159, -1, 160, MOST, LEAST}) {
            due("queue " + k, x.queue(k, false), -1);
            due("when " + k, x.queue(k, true), -1);
        }
    }

    static void finds() {
        promise(29, "FINDS. IllegalArgumentException: v is none (0 to 255).");
        make("card 2 10 1;flow 0;send 0 1 10;drop 0;send 0 1 10;drop 1;send 0 1 10");
        int last = x.octet(2, 0, 12);
        due("as it is", x.finds(2, 0, 12, last), false);
        due("0", of(() -> x.finds(2, 0, 12, 0) ? 1 : 0), 1);
        due("255", of(() -> x.finds(2, 0, 12, 255) ? 1 : 0), 1);
        due("word 0's higher byte is 0", of(() -> x.finds(2, 0, 0, 0) ? 1 : 0), 0);
        for (int v : new int[] {-1, 256, MOST, LEAST}) {
            none("v " + v, () -> x.finds(2, 0, 12, v) ? 1 : 0, ARGUMENT);
        }
        for (int k : new int[] {13, -1, MOST, LEAST}) {
            none("byte " + k, () -> x.finds(2, 0, k, 0) ? 1 : 0, INDEX);
        }
        for (int piece : new int[] {1, -1, MOST, LEAST}) {
            none("piece " + piece, () -> x.finds(2, piece, 0, 0) ? 1 : 0, INDEX);
        }
        for (int n : noSends()) {
            none("send " + n, () -> x.finds(n, 0, 0, 0) ? 1 : 0, INDEX);
        }
        promise(30, "BLIND.");
        make("card 2 10 1;flow 0;send 0 1 10;drop 0;send 0 1 10;drop 1;send 0 1 10");
        asks("13, 128, 0, 2, 3: all unlike", () -> x.blind(2, 0), 10);
        for (int piece : new int[] {1, -1, MOST, LEAST}) {
            none("piece " + piece, () -> x.blind(2, piece), INDEX);
        }
        for (int n : noSends()) {
            none("send " + n, () -> x.blind(n, 0), INDEX);
        }
    }

    static void paper() {
        promise(31, "WORKS. IllegalArgumentException: there is no such time (TIME to 9999).");
        make("flow 0;tick 5;send 0 8 10");
        asks("to time", () -> x.works(5), 0);
        asks("to one more", () -> x.works(6), 1);
        asks("to 9999", () -> x.works(9999), 2);
        for (int time : new int[] {4, 10000, -1, MOST, LEAST}) {
            none("works to " + time, () -> x.works(time), ARGUMENT);
        }
        toTime(9999);
        due("at 9999", of(() -> x.works(9999)), 0);
        none("9998", () -> x.works(9998), ARGUMENT);
        promise(32, "QUIET; NONE (at none below 9999).");
        toTime(9998);
        due("at 9998", x.quiet(), 9998);
        x.tick(1);
        due("at 9999", x.quiet(), -1);
        make("flow 0");
        toTime(9990);
        x.send(0, 78, 100, 0);
        due("9 ticks", x.quiet(), -1);
        promise(33, "ENDS; NONE.");
        make("card 2 10 2;flow 0;send 0 8 10");
        asks("not seen", () -> x.ends(0), -1);
        x.bell();
        asks("seen", () -> x.ends(0), 2);
        x.tick(2);
        x.send(0, 1, 10, 0);
        x.send(0, 1, 10, 0);
        for (int n : noSends()) {
            none("send " + n, () -> x.ends(n), INDEX);
        }
        promise(34, "LAST; NONE.");
        asks("of none", () -> x.last(), 0);
        make("flow 0;send 0 8 10");
        asks("one", () -> x.last(), 2);
        x.pause(0, false);
        asks("paused", () -> x.last(), -1);
        promise(35, "LEAST; NONE. IllegalArgumentException: there is no such time (0 to 9999).");
        make("card 2 10 1;flow 0;send 0 8 10;drop 0;send 0 8 10;drop 1;send 0 8 10");
        asks("0", () -> x.least(2, 0), -1);
        asks("1", () -> x.least(2, 1), -1);
        asks("2", () -> x.least(2, 2), 1);
        asks("9999", () -> x.least(2, 9999), 1);
        for (int time : new int[] {-1, 10000, MOST, LEAST}) {
            none("least by " + time, () -> x.least(2, time), ARGUMENT);
            none("least of one dropped by " + time, () -> x.least(1, time), ARGUMENT);
        }
        for (int n : noSends()) {
            none("least of " + n, () -> x.least(n, 0), INDEX);
        }
        promise(36, "FIRST: the PIECE (when false), or when; NONE.");
        asks("of none", () -> x.first(false), -1);
        asks("when", () -> x.first(true), -1);
        make("flow 0;send 0 8 10;drop 0;send 0 8 10 at 3");
        asks("which", () -> x.first(false), 64);
        asks("when", () -> x.first(true), 3);
    }

    static void images() {
        promise(37, "THE IMAGE is kept.");
        make("flow 0;tick 3");
        x.bell();
        String ahead = all();
        due("undo is none of it", x.count(18), 1);
        x.image();
        alike("nothing else happens", all(), ahead);
        x.tick(5);
        due("back", x.back(), true);
        due("time", x.count(4), 3);
        due("bells", x.count(8), 1);
        promise(38, "One goes back to THE IMAGE: true; false, and nothing happens, if none was kept.");
        make("flow 0;tick 3");
        x.bell();
        String all = all();
        due("none", x.back(), false);
        alike("nothing happens", all(), all);
        due("a refused one", of(() -> x.drop(0)), STATE);
        due("none", x.back(), false);
        due("why", x.why(), 4);
        x.image();
        due("one", x.back(), true);
        due("one, again", x.back(), true);
    }

    static void counts() {
        promise(39, "0 RING, 1 WIRE, 2 BATCH, 3 FLOWS, 4 TIME, 5 SENDS POSTED so far, 6 RECLAIMED, 7 POSTED, not SEEN"
            + " nor DROPPED, 8 BELLS, 9 SAVED, 10 DONE, 11 EARLY, 12 HELD, 13 BUSY, 14 IDLE, 15 STARVED, 16 rows"
            + " of THE LOG, 17 1 if the wire has a PIECE, 18 what is remembered.");
        make("card 7 10 2;flow 0;flow 0;tick 2;send 0 8 10;drop 0;send 0 8 10;send 1 8 10;pause 0;tick 3");
        x.send(1, 8, 10, 0);
        x.tick(1);
        x.bell();
        x.tick(1);
        x.send(0, 8, 10, 0);
        int[] all = {7, 10, 2, 2, 7, 5, 1, 1, 2, 1, 1, 1, 1, 3, 4, 2, 2, 1, 5};
        for (int what = 0; what < all.length; what++) {
            int asked = what;
            asks("count " + what, () -> x.count(asked), all[what]);
        }
        promise(39, "NONE for another what.");
        for (int what : new int[] {-1, 19, 20, MOST, LEAST}) {
            due("count " + what, x.count(what), -1);
        }
        due("count 0", x.count(0), 4);
        due("count 18", x.count(18), 0);
    }

    static void manyCalls() {
        terms(39, "An object is used for at most 512 calls after it has been made");
        for (int call = 1; call <= 511; call++) {
            x.bell();
        }
        due("the 512th call", x.count(8), 511);
    }

    public static void main(String[] args) {
        newObject();
        feeds();
        ends();
        acts();
        sends();
        bellsAndDrops();
        ticks();
        tolds();
        pieces();
        holders();
        flows();
        bursts();
        latests();
        rows();
        queues();
        finds();
        paper();
        images();
        counts();
        manyCalls();
        finish("promise edges", 1, 39);
    }
}
