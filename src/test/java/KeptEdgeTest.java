/** The boundary cases that the terms name from KNOWN on: what is kept, counted and reckoned, ON PAPER too. */
public final class KeptEdgeTest extends Asked {

    /** Sends of one piece that has the wire for one tick, each done ahead of the next. */
    static void doneOnes(int many) {
        for (int i = 0; i < many; i++) {
            x.send(0, 1, 10, 0);
            x.tick(1);
        }
    }

    static void known() {
        terms(14, "KNOWN are the latest SENDS, as many as RING at most.");
        for (int ring = 1; ring <= 8; ring++) {
            make("card " + ring + " 40 1;flow 0");
            for (int posted = 1; posted <= ring + 9; posted++) {
                doneOnes(1);
                for (int n = -1; n <= posted; n++) {
                    int send = n;
                    boolean is = n >= 0 && n < posted && n >= posted - ring;
                    due("send " + n + " of " + posted + ", ring " + ring, of(() -> x.told(send, 0)), is ? 0 : INDEX);
                }
            }
        }
        make("card 2 40 8;flow 0;send 0 1 10;send 0 1 10");
        due("full, none forgotten", of(() -> x.told(0, 4)), 0);
        x.drop(0);
        due("dropped, yet known", of(() -> x.told(0, 4)), 3);
        x.send(0, 1, 10, 0);
        none("forgotten", () -> x.told(0, 4), INDEX);
        none("the greatest number", () -> x.told(Integer.MAX_VALUE, 0), INDEX);
        none("the least number", () -> x.told(Integer.MIN_VALUE, 0), INDEX);
    }

    static void bells() {
        terms(39, "BELLS that rang;");
        make("card 8 40 2;flow 0;send 0 1 10");
        due("none yet", x.count(8), 0);
        x.send(0, 1, 10, 0);
        due("by a batch", x.count(8), 1);
        x.bell();
        due("by hand", x.count(8), 2);
        right("send 0 1 10;bell;bell", 3);
        due("by a text", x.count(8), 4);
        terms(39, "SAVED: SENDS that were SEEN, less BELLS that made one SEEN at least.");
        make("card 8 40 3;flow 0");
        x.bell();
        x.bell();
        due("bells", x.count(8), 2);
        due("none seen", x.count(9), 0);
        x.send(0, 1, 10, 0);
        x.bell();
        due("one by one bell", x.count(9), 0);
        x.send(0, 1, 10, 0);
        x.send(0, 1, 10, 0);
        due("not seen yet", x.count(9), 0);
        x.send(0, 1, 10, 0);
        due("three by one bell", x.count(9), 2);
        x.send(0, 1, 10, 0);
        x.drop(4);
        x.bell();
        due("bells", x.count(8), 5);
        due("dropped, not seen", x.count(9), 2);
        x.drop(3);
        due("seen, then dropped", x.count(9), 2);
    }

    static void dones() {
        terms(20, "DONE ones in their order, the latest 20 are kept (eldest are forgotten): the k-th, its time.");
        make("card 8 40 1;flow 0");
        due("none", x.done(0, false), -1);
        doneOnes(19);
        due("the 19th", x.done(18, false), 0);
        due("no 20th", x.done(19, false), -1);
        doneOnes(1);
        due("the 20th", x.done(19, false), 0);
        due("its time", x.done(19, true), 1);
        doneOnes(1);
        due("the latest", x.done(0, false), 20);
        due("its time", x.done(0, true), 21);
        due("the 20th", x.done(19, false), 1);
        due("its time", x.done(19, true), 2);
        due("the 21st is forgotten", x.done(20, false), -1);
        due("and its time", x.done(20, true), -1);
        due("all are counted", x.count(10), 21);
        doneOnes(40);
        due("the 20th of 61", x.done(19, false), 41);
        due("no 21st of 61", x.done(20, false), -1);
        terms(39, "EARLY: how many SENDS were DONE while one of a lesser number was neither DONE nor DROPPED.");
        make("card 8 40 1;flow 0;flow 0;pause 0");
        x.send(1, 1, 10, 0);
        x.tick(1);
        due("none is lesser", x.count(11), 0);
        x.send(0, 1, 10, 0);
        x.send(1, 1, 10, 0);
        x.tick(1);
        due("a lesser one is not over", x.count(11), 1);
        x.send(1, 1, 10, 0);
        x.drop(1);
        x.tick(1);
        due("the lesser one is dropped", x.count(11), 1);
        x.send(0, 1, 10, 0);
        x.send(1, 1, 10, 0);
        x.tick(1);
        due("one more", x.count(11), 2);
        x.pause(0, true);
        x.tick(1);
        due("the lesser one itself is not early", x.count(11), 2);
        terms(39, "HELD: SENDS that are DONE, not RECLAIMED.");
        make("card 8 40 1;flow 0;flow 0;pause 0;send 0 1 10;send 1 1 10;send 1 1 10;send 1 1 10");
        due("none", x.count(12), 0);
        x.drop(3);
        x.tick(2);
        due("two, a dropped one is none", x.count(12), 2);
        x.pause(0, true);
        x.tick(1);
        due("all are reclaimed", x.count(12), 0);
        due("reclaimed", x.count(6), 4);
    }

    static void wires() {
        terms(39, "BUSY, IDLE: TICKS in which the wire had a PIECE, had none; STARVED: of the IDLE ones those in"
            + " which some PIECE that did not leave had DEPART of that TICK or less (its FLOW being PAUSED).");
        make("card 8 10 1;flow 0;flow 0;pause 0");
        x.send(0, 1, 10, 3);
        x.tick(3);
        due("busy", x.count(13), 0);
        due("idle", x.count(14), 3);
        due("not yet starved", x.count(15), 0);
        x.tick(1);
        due("starved at its depart", x.count(15), 1);
        due("idle too", x.count(14), 4);
        x.send(1, 1, 10, 0);
        x.tick(2);
        due("busy", x.count(13), 2);
        due("not idle, so not starved", x.count(15), 1);
        x.tick(1);
        due("starved again", x.count(15), 2);
        x.pause(0, true);
        x.tick(3);
        due("its own two ticks", x.count(13), 4);
        due("idle then", x.count(14), 6);
        due("nothing waits", x.count(15), 2);
        make("card 8 10 8;flow 0;send 0 1 10;pause 0;tick 2");
        due("one that is not seen has no piece", x.count(15), 0);
        make("card 8 10 1;flow 0;pause 0;send 0 1 10;tick 2;drop 0;tick 2");
        due("one that is dropped has none any more", x.count(15), 2);
    }

    static void logs() {
        terms(21, "THE LOG: the latest 40 PIECES that LEFT");
        make("card 8 40 1;flow 0;send 0 200 10;send 0 200 10;send 0 200 10");
        due("no rows", x.count(16), 0);
        x.tick(39);
        due("39 rows", x.count(16), 39);
        due("no row 39", x.log(39, 0), -1);
        x.tick(1);
        due("40 rows", x.count(16), 40);
        due("row 39", x.log(39, 1), 19);
        due("the eldest", x.log(0, 1), 0);
        x.tick(1);
        due("40 rows yet", x.count(16), 40);
        due("the eldest is forgotten", x.log(0, 1), 1);
        due("row 39", x.log(39, 0), 2);
        due("no row 40", x.log(40, 0), -1);
        x.tick(19);
        due("row 0 of 60", x.log(0, 0), 1);
        due("where its first byte is", x.log(0, 7), 200);
        due("row 39 of 60", x.log(39, 7), 590);
        terms(21, "LATE of a LOG row: how much later than DEPART it LEFT.");
        make("card 8 10 1;flow 0;send 0 16 10;tick 9");
        due("at its depart", x.log(0, 6), 0);
        due("when the wire was free", x.log(1, 6), 3);
        terms(19, "BURST of a FLOW and N (1 to 99): of rows of THE LOG of that FLOW the most SIZE, together, of those"
            + " that LEFT in any N TICKS one behind another.");
        make("card 8 40 1;flow 0;flow 0");
        due("no rows", of(() -> x.burst(0, 99)), 0);
        x.send(0, 1, 10, 0);
        x.send(0, 2, 10, 98);
        x.send(0, 3, 10, 99);
        x.send(0, 4, 10, 198);
        x.send(1, 9, 10, 97);
        x.tick(99);
        x.tick(99);
        x.tick(3);
        int[][] bursts = {{1, 16}, {2, 29}, {98, 29}, {99, 29}};
        for (int[] b : bursts) {
            due("burst of " + b[0], of(() -> x.burst(0, b[0])), b[1]);
        }
        make("card 8 40 1;flow 0;send 0 10 10;send 0 1 10 at 98;send 0 10 10 at 197");
        x.tick(99);
        x.tick(99);
        due("98 apart, 98 ticks", of(() -> x.burst(0, 98)), 22);
        due("98 apart, 99 ticks; 99 apart", of(() -> x.burst(0, 99)), 35);
        make("card 8 40 1;flow 0;flow 0;send 0 1 10;send 1 9 10 at 1;send 0 3 10 at 2;tick 9");
        due("another flow's row is not counted", of(() -> x.burst(0, 3)), 28);
        due("nor one of this for the other", of(() -> x.burst(1, 9)), 21);
    }

    static void merges() {
        terms(23, "those put together whose bytes follow right behind those of the row ahead (of that FLOW; so again"
            + " and again): how many there are then, the most bytes (HEADS aside) of one");
        make("card 8 40 1;flow 0;flow 0 from 20;flow 0 from 7");
        due("no rows", of(() -> x.merged(0, false)), 0);
        due("no bytes", of(() -> x.merged(0, true)), 0);
        x.send(0, 20, 10, 0);
        x.tick(1);
        due("one row", of(() -> x.merged(0, false)), 1);
        due("its bytes", of(() -> x.merged(0, true)), 10);
        x.send(1, 10, 10, 1);
        x.send(0, 5, 10, 1);
        x.tick(9);
        due("another flow's row between", of(() -> x.merged(0, false)), 1);
        due("all bytes", of(() -> x.merged(0, true)), 25);
        due("the other flow's", of(() -> x.merged(1, false)), 1);
        due("its bytes", of(() -> x.merged(1, true)), 10);
        x.send(0, 1, 10, 0);
        x.drop(3);
        x.send(0, 30, 10, 0);
        x.tick(9);
        due("one byte lies between", of(() -> x.merged(0, false)), 2);
        due("the most", of(() -> x.merged(0, true)), 30);
        due("none of flow 2", of(() -> x.merged(2, false)), 0);
        make("card 8 40 1;flow 0;send 0 200 10;send 0 200 10;send 0 200 10;tick 41");
        due("40 rows", of(() -> x.merged(0, true)), 400);
        terms(24, "SHARE of a FLOW: SIZES of its rows of THE LOG by those of all rows, in hundredths, rounded down (0"
            + " without rows).");
        make("card 8 40 1;flow 0;flow 0;flow 0");
        due("no rows", of(() -> x.share(0)), 0);
        x.send(0, 1, 10, 0);
        x.tick(1);
        due("all", of(() -> x.share(0)), 100);
        due("none", of(() -> x.share(1)), 0);
        x.send(1, 1, 10, 0);
        x.send(1, 1, 10, 0);
        x.tick(2);
        due("a third", of(() -> x.share(0)), 33);
        due("two thirds", of(() -> x.share(1)), 66);
        make("card 8 1 1;flow 0;flow 0;send 0 88 88;send 1 187 100;tick 99");
        x.tick(99);
        x.tick(99);
        due("100 of 311", of(() -> x.share(0)), 32);
        due("211 of 311", of(() -> x.share(1)), 67);
    }

    static void calendars() {
        terms(25, "PIECES that did not leave with DEPART of TIME and k times N at least (of k 0 also less), less than"
            + " that and N");
        make("card 8 40 1;flow 0;flow 0;pause 0");
        x.send(0, 1, 10, 20);
        x.tick(10);
        int[][] asked = {{1, 9, 0}, {1, 10, 1}, {1, 11, 0}, {10, 0, 0}, {10, 1, 1}, {11, 0, 1}, {9, 1, 1}, {9, 2, 0},
            {5, 1, 0}, {5, 2, 1}, {5, 3, 0}};
        for (int[] a : asked) {
            asks("calendar of " + a[0] + ", " + a[1], () -> x.calendar(a[0], a[1]), a[2]);
        }
        x.tick(11);
        due("less, of k 0", of(() -> x.calendar(1, 0)), 1);
        due("less, of k 1", of(() -> x.calendar(1, 1)), 0);
        x.pause(0, true);
        x.tick(1);
        due("it left", of(() -> x.calendar(99, 0)), 0);
        make("flow 0;send 0 1 10 at 9999");
        due("9999 of 1", of(() -> x.calendar(1, 9999)), 1);
        due("9998 of 1", of(() -> x.calendar(1, 9998)), 0);
        due("101 of 99", of(() -> x.calendar(99, 101)), 1);
        due("100 of 99", of(() -> x.calendar(99, 100)), 0);
        due("9999 of 99", of(() -> x.calendar(99, 9999)), 0);
        terms(26, "DELAY of a FLOW: LATE of its rows of THE LOG, together, by how many there are, in hundredths,"
            + " rounded down; none without rows.");
        make("card 8 10 1;flow 0;flow 0;send 0 8 10;send 0 8 10 at 1;send 0 8 10 at 3");
        due("none", of(() -> x.delay(0)), -1);
        x.tick(1);
        due("0 by 1", of(() -> x.delay(0)), 0);
        x.tick(2);
        due("1 by 2", of(() -> x.delay(0)), 50);
        x.tick(2);
        due("2 by 3", of(() -> x.delay(0)), 66);
        due("none of the other", of(() -> x.delay(1)), -1);
        terms(27, "how many TICKS lie between the last one in which the wire had the PIECE of the row ahead (by WIRE, its"
            + " SIZE) and when this one LEFT");
        make("card 8 40 1;flow 0;send 0 28 40;send 0 29 41 at 1;send 0 1 10 at 4;tick 9");
        due("40 bytes to 1, 41 bytes to 3, then 4", x.rest(), 1);
        make("card 8 1 1;flow 0;flow 0;pause 0;send 0 1 10;send 1 1 10;tick 13;tick 5;go 0;tick 1");
        due("13 bytes to 13, then 18", x.rest(), 5);
        terms(27, "the most; none with fewer than 2 rows");
        make("card 8 10 1;flow 0;send 0 8 10;send 0 9 10;send 0 8 10 at 9;send 0 8 10 at 12");
        asks("no row", () -> x.rest(), -1);
        x.tick(1);
        due("one row", x.rest(), -1);
        x.tick(2);
        due("two rows, one right behind the other", x.rest(), 0);
        x.tick(7);
        due("2 to 5, then 9", x.rest(), 4);
        x.tick(9);
        due("9 to 11, then 12", x.rest(), 4);
        terms(18, "the greatest less the least number of TICKS between two rows of it one behind the other in THE LOG"
            + " (when they LEFT); none with fewer than 3 rows");
        make("card 8 40 1;flow 0;flow 0;send 0 1 10;send 0 1 10 at 4;send 0 1 10 at 8;send 0 1 10 at 19;"
            + "send 1 1 10 at 5");
        due("no row", x.flow(0, 7), -1);
        x.tick(4);
        due("one row", x.flow(0, 7), -1);
        x.tick(4);
        due("two rows", x.flow(0, 7), -1);
        x.tick(1);
        due("three rows, all alike", x.flow(0, 7), 0);
        x.tick(11);
        due("4, 4, 11", x.flow(0, 7), 7);
        due("one row of another flow", x.flow(1, 7), -1);
        make("card 8 40 1;flow 0;send 0 1 10;send 0 1 10 at 11;send 0 1 10 at 15;send 0 1 10 at 19;tick 20");
        due("11, 4, 4", x.flow(0, 7), 7);
    }

    static int brought(int sum) {
        return sum <= 65535 ? sum : brought((sum >> 16) + (sum & 65535));
    }

    static void found() {
        terms(29, "whether, were that byte so, all its words (SUM as it is) would no longer come to 65535");
        for (int length : new int[] {1, 2, 7}) {
            make("flow 0;flow 0 from 9999");
            x.send(1, length, 10, 0);
            int size = 12 + length;
            int sum = 0;
            for (int k = 0; k < size; k++) {
                sum += k % 2 == 0 ? x.octet(0, 0, k) << 8 : x.octet(0, 0, k);
            }
            for (int k = 0; k < size; k++) {
                for (int v = 0; v < 256; v++) {
                    int more = v - x.octet(0, 0, k);
                    boolean finds = brought(sum + (k % 2 == 0 ? 256 * more : more)) != 65535;
                    due("byte " + k + " being " + v, x.finds(0, 0, k, v), finds);
                    due("as it is alone is not found", finds, more != 0);
                }
            }
        }
        terms(30, "pairs of words of 2 bytes of it (SUM aside) that are not alike");
        for (int length = 1; length <= 100; length++) {
            make("flow 0;flow 0 from 257");
            x.send(1, length, 100, 0);
            int words = (12 + length) / 2;
            int pairs = 0;
            for (int i = 0; i < words; i++) {
                for (int j = 0; j < i; j++) {
                    boolean alike = x.octet(0, 0, 2 * i) == x.octet(0, 0, 2 * j)
                        && x.octet(0, 0, 2 * i + 1) == x.octet(0, 0, 2 * j + 1);
                    pairs += alike || i == 5 || j == 5 ? 0 : 1;
                }
            }
            due("pairs of " + length + " bytes", x.blind(0, 0), pairs);
        }
        make("flow 0;send 0 1 10");
        due("13, 0, 0, 0, 3 and a byte alone", x.blind(0, 0), 7);
    }

    static void ends() {
        terms(33, "ENDS of a KNOWN SEND: when it would be DONE (as it was, if it is); none.");
        make("card 8 10 1;flow 0;flow 0");
        x.send(0, 8, 10, 9997);
        asks("at 9999", () -> x.ends(0), 9999);
        x.send(1, 8, 10, 9998);
        due("behind it: not by 9999", of(() -> x.ends(1)), -1);
        x.drop(0);
        due("dropped", of(() -> x.ends(0)), -1);
        due("by 10000", of(() -> x.ends(1)), -1);
        make("card 8 10 1;flow 0;send 0 8 10 at 9999");
        due("it does not leave", of(() -> x.ends(0)), -1);
        make("card 8 10 2;flow 0;flow 0;send 0 8 10");
        due("posted", of(() -> x.ends(0)), -1);
        x.bell();
        due("seen", of(() -> x.ends(0)), 2);
        x.pause(0, false);
        due("paused", of(() -> x.ends(0)), -1);
        x.pause(0, true);
        x.tick(1);
        x.pause(0, false);
        due("paused, but it left", of(() -> x.ends(0)), 2);
        x.tick(9);
        asks("as it was", () -> x.ends(0), 2);
        make("card 8 10 1;flow 0");
        toTime(9997);
        x.send(0, 8, 10, 0);
        x.tick(1);
        due("on the wire to 9999", of(() -> x.ends(0)), 9999);
        make("card 8 10 1;flow 0");
        toTime(9997);
        x.send(0, 9, 10, 0);
        x.tick(1);
        due("on the wire to 10000", of(() -> x.ends(0)), -1);
        terms(34, "LAST: when the last SEND that is SEEN would be DONE; none, if some would not; TIME, if all are.");
        x.tick(7);
        asks("no sends", () -> x.last(), 7);
        make("card 8 10 3;flow 0;flow 0;tick 5;send 0 8 10");
        due("none seen", x.last(), 5);
        x.send(1, 8, 10, 30);
        x.bell();
        asks("the last one", () -> x.last(), 32);
        x.drop(1);
        due("a dropped one is none", x.last(), 7);
        x.tick(1);
        due("on the wire", x.last(), 7);
        x.tick(1);
        due("all are done", x.last(), 7);
        x.tick(5);
        due("all are done, later", x.last(), 12);
        x.send(0, 8, 10, 9997);
        x.bell();
        due("at 9999", x.last(), 9999);
        x.send(1, 8, 10, 9996);
        x.bell();
        due("some would not", x.last(), -1);
        make("card 8 10 1;flow 0;flow 0;pause 0;send 0 8 10;send 1 8 10");
        due("one is paused", x.last(), -1);
        make("card 8 10 1;flow 0;tick 4");
        x.send(0, 8, 10, 9999);
        due("one does not leave", x.last(), -1);
    }

    static void leasts() {
        terms(35, "the least RATE of its FLOW from now on, of 1 to 999, by which it would be DONE at that time at the"
            + " latest; none (also if it is DONE, DROPPED, not SEEN)");
        make("card 8 10 2;flow 0;send 0 20 10");
        due("not seen", of(() -> x.least(0, 9999)), -1);
        x.bell();
        asks("by rate 1: 220 and 3", () -> x.least(0, 223), 1);
        asks("one less", () -> x.least(0, 222), 2);
        due("rate 2: 110 and 3", of(() -> x.least(0, 113)), 2);
        due("one less", of(() -> x.least(0, 112)), 3);
        due("the wire's own time", of(() -> x.least(0, 6)), 74);
        due("none earlier", of(() -> x.least(0, 5)), -1);
        due("at 0", of(() -> x.least(0, 0)), -1);
        due("rate stays", x.flow(0, 0), 0);
        x.tick(4);
        due("all left: any rate", of(() -> x.least(0, 6)), 1);
        due("not ahead of its end", of(() -> x.least(0, 5)), -1);
        due("a time that was", of(() -> x.least(0, 0)), -1);
        x.tick(2);
        due("done", of(() -> x.least(0, 9999)), -1);
        x.send(0, 1, 10, 0);
        x.drop(1);
        due("dropped", of(() -> x.least(1, 9999)), -1);
        // By gap 1 the second piece of 99 bytes goes ahead of send 1, that may leave at 1, too.
        make("card 8 40 1;flow 0;flow 0;send 0 174 87;send 1 100 100 at 1");
        due("gap 1 of 99 bytes", of(() -> x.least(0, 6)), 990);
        due("gap 6, behind the other one", of(() -> x.least(0, 9)), 165);
        // 100 bytes have no gap of 1 by a rate of 999; by rate 0 they have none.
        make("card 8 40 1;flow 0;flow 0;send 0 176 88;send 1 100 100 at 1");
        due("by rate 0", of(() -> x.ends(0)), 6);
        due("by none of 1 to 999", of(() -> x.least(0, 6)), -1);
        due("gap 6, behind the other one", of(() -> x.least(0, 9)), 167);
        make("card 8 10 1;flow 0;send 0 8 10 at 9997");
        due("at 9999", of(() -> x.least(0, 9999)), 1);
        due("at 9998", of(() -> x.least(0, 9998)), -1);
        make("card 8 10 1;flow 0;pause 0;send 0 8 10");
        due("paused", of(() -> x.least(0, 9999)), -1);
    }

    static void works() {
        terms(31, "how many TICKS from TIME on, ahead of that time, the wire would have a PIECE");
        make("card 8 10 1;flow 0;flow 0;tick 3;send 0 8 10;send 1 8 10 at 9");
        int[][] works = {{3, 0}, {4, 1}, {5, 2}, {6, 2}, {9, 2}, {10, 3}, {11, 4}, {12, 4}, {9999, 4}};
        for (int[] w : works) {
            asks("works to " + w[0], () -> x.works(w[0]), w[1]);
        }
        x.tick(1);
        due("the wire has one", of(() -> x.works(5)), 1);
        due("to now", of(() -> x.works(4)), 0);
        x.pause(1, false);
        due("the other one is paused", of(() -> x.works(9999)), 1);
        make("card 8 10 1;flow 0;send 0 8 10 at 9998");
        due("to 9999 at most", of(() -> x.works(9999)), 1);
        due("ahead of 9998", of(() -> x.works(9998)), 0);
        terms(32, "QUIET: the first time, from TIME on, at which the wire would have none in the TICK at it.");
        asks("now", () -> x.quiet(), 0);
        make("card 8 10 1;flow 0;send 0 8 10;send 0 8 10 at 2;send 0 8 10 at 5");
        asks("behind two", () -> x.quiet(), 4);
        x.tick(3);
        due("behind the one on the wire", x.quiet(), 4);
        x.tick(1);
        due("now", x.quiet(), 4);
        x.tick(1);
        due("behind the third", x.quiet(), 7);
        make("card 8 10 1;flow 0");
        toTime(9990);
        x.send(0, 68, 100, 0);
        due("8 ticks", x.quiet(), 9998);
        make("card 8 10 1;flow 0");
        toTime(9990);
        x.send(0, 69, 100, 0);
        due("9 ticks", x.quiet(), -1);
        x.tick(1);
        due("9 ticks, one is over", x.quiet(), -1);
        make("bell");
        toTime(9998);
        due("at 9998", x.quiet(), 9998);
        x.tick(1);
        due("at 9999", x.quiet(), -1);
    }

    static void queues() {
        terms(28, "QUEUE: of PIECES in the order in which they would leave from now on the k-th (0 the first): 64"
            + " times its SEND and its number, together, and when; none.");
        due("no sends", x.queue(0, false), -1);
        make("card 8 40 1;flow 0");
        for (int n = 0; n < 8; n++) {
            x.send(0, 200, 10, 0);
        }
        asks("the first", () -> x.queue(0, false), 0);
        asks("when", () -> x.queue(0, true), 0);
        due("the last of send 0", x.queue(19, false), 19);
        due("the first of send 1", x.queue(20, false), 64);
        due("the last of all", x.queue(159, false), 64 * 7 + 19);
        due("when", x.queue(159, true), 159);
        asks("no more", () -> x.queue(160, false), -1);
        due("no more", x.queue(160, true), -1);
        due("below 0", x.queue(-1, false), -1);
        due("the greatest", x.queue(Integer.MAX_VALUE, true), -1);
        due("the least", x.queue(Integer.MIN_VALUE, true), -1);
        x.tick(1);
        due("from now on", x.queue(0, false), 1);
        due("one fewer", x.queue(159, false), -1);
        make("card 8 10 1;flow 0;flow 0;send 0 8 10 at 9997;send 1 8 10 at 9998;send 1 8 10 at 9998");
        due("at 9997", x.queue(0, true), 9997);
        due("the wire is not free by 9998", x.queue(1, true), -1);
        x.drop(0);
        due("at 9998", x.queue(0, true), 9998);
        due("and no more", x.queue(1, true), -1);
        terms(36, "FIRST of all: which PIECE (64 times its SEND and its number, together) would leave next, and when;"
            + " none.");
        asks("none", () -> x.first(false), -1);
        asks("none", () -> x.first(true), -1);
        make("card 8 10 1;flow 0;flow 0;pause 0;send 0 8 10;send 1 16 10 at 4");
        asks("not the paused one", () -> x.first(false), 64);
        asks("when", () -> x.first(true), 4);
        x.tick(5);
        due("its next piece", x.first(false), 65);
        due("as the wire is free", x.first(true), 7);
        x.tick(3);
        due("all left or paused", x.first(false), -1);
        due("when", x.first(true), -1);
        x.send(1, 1, 10, 9998);
        due("at 9998", x.first(true), 9998);
        x.drop(2);
        x.send(1, 1, 10, 9999);
        due("not at 9999", x.first(true), -1);
        make("card 8 10 1;flow 0");
        toTime(9999);
        x.send(0, 1, 10, 0);
        due("time 9999", x.first(true), -1);
    }

    static void fullCard() {
        terms(28, "ON PAPER (no ACT but TICKS, to time 9999 at most; nothing stays)");
        make("card 8 40 8;flow 0;flow 0");
        for (int n = 0; n < 8; n++) {
            x.send(n / 4, 200, 10, 0);
        }
        due("pieces", x.flow(0, 3) + x.flow(1, 3), 160);
        asks("ends", () -> x.ends(7), 160);
        asks("last", () -> x.last(), 160);
        asks("quiet", () -> x.quiet(), 160);
        asks("works", () -> x.works(9999), 160);
        asks("works", () -> x.works(159), 159);
        asks("queue", () -> x.queue(159, true), 159);
        asks("least", () -> x.least(7, 160), 110);
        asks("least", () -> x.least(7, 159), -1);
        asks("least", () -> x.least(7, 9999), 2);
        refused("a ninth send", () -> x.send(0, 1, 10, 0), 3);
        for (int time = 0; time < 160; time++) {
            x.tick(1);
        }
        due("and so it is", x.told(7, 7), 160);
        due("all is done", x.last(), 160);
    }

    static void images() {
        terms(37, "THE IMAGE (one) of all may be kept, and gone back to (but for the TAPE, fault(), WHY and THE IMAGE"
            + " itself).");
        due("none", x.back(), false);
        make("card 8 10 1;flow 0;flow 20;send 0 30 10;tick 2");
        x.image();
        String kept = all();
        right("send 1 30 10;tick 50;flow 3;pause 0", 4);
        wrongBy("bell;drop 0", 5, 4);
        feedAll("bell");
        due("back", x.back(), true);
        alike("as it was", all(), kept);
        due("fault", x.fault(), 5);
        due("why", x.why(), 4);
        due("tape", tape(), 4);
        due("back again", x.back(), true);
        alike("as it was", all(), kept);
        due("the tape's act", of(() -> x.acts()), 1);
        right("card 1 1 1", 1);
        due("back behind a card", x.back(), true);
        alike("as it was", all(), kept);
        x.tick(1);
        String later = all().replace("count18=1", "count18=0");
        x.image();
        x.tick(1);
        due("back to the latest image", x.back(), true);
        alike("as it was", all(), later);
        busy();
        x.image();
        String on = later();
        due("back", x.back(), true);
        alike("it goes on as it did", later(), on);
    }

    static void exceptions() {
        terms(7, "Of several exceptions the one told first is thrown");
        make("card 1 10 1;flow 0;send 0 1 10");
        none("send: no length, no flow, no slot", () -> x.send(9, 0, 10, 0), ARGUMENT);
        none("send: no cut, no flow", () -> x.send(9, 1, 9, 0), ARGUMENT);
        none("send: no at, no flow", () -> x.send(9, 1, 10, -1), ARGUMENT);
        refused("send: no flow, no slot", () -> x.send(9, 1, 10, 0), 2);
        none("rate: no rate, no flow", () -> x.rate(9, 1000), ARGUMENT);
        none("told: no send, no what", () -> x.told(1, 9), INDEX);
        none("piece: no send, no what", () -> x.piece(1, 0, 9), INDEX);
        none("piece: no piece, no what", () -> x.piece(0, 1, 9), INDEX);
        none("flow: no flow, no what", () -> x.flow(1, 9), INDEX);
        none("burst: no flow, no ticks", () -> x.burst(1, 0), INDEX);
        none("finds: no byte, no number", () -> x.finds(0, 0, 13, 256) ? 1 : 0, INDEX);
        none("finds: no piece, no number", () -> x.finds(0, 1, 0, 256) ? 1 : 0, INDEX);
        none("finds: no send, no number", () -> x.finds(1, 0, 0, 256) ? 1 : 0, INDEX);
        none("least: no send, no time", () -> x.least(1, -1), INDEX);
        none("log: no row, no what", () -> x.log(0, 8), ELEMENT);
        toTime(9999);
        none("tick: no ticks, none can be", () -> x.tick(0), ARGUMENT);
        terms(16, "IndexOutOfBoundsException: there is no such FLOW, KNOWN SEND, PIECE, byte.");
        make("card 1 40 1;flow 0;send 0 1 10;tick 1;send 0 1 10");
        due("all are there", of(() -> x.octet(1, 0, 12)), 7);
        none("no known send", () -> x.octet(0, 0, 12), INDEX);
        none("no piece", () -> x.octet(1, 1, 12), INDEX);
        none("no byte", () -> x.octet(1, 0, 13), INDEX);
        none("no flow", () -> x.flow(1, 0), INDEX);
        terms(4, "a call that throws changes nothing but the TAPE, where it is used up, fault(), where a text is"
            + " read, and WHY, where an ACT is refused");
        make("card 4 10 2;flow 7;flow 8;send 0 30 10;send 1 1 10;tick 1");
        x.bell();
        wrongBy("bell;drop 9", 5, 4);
        feedAll("bell;x");
        due("tape", tape(), 6);
        refused("send", () -> x.send(2, 1, 10, 0), 2);
        none("send", () -> x.send(0, 1, 10, 10000), ARGUMENT);
        refused("drop", () -> x.drop(0), 4);
        refused("pause", () -> x.pause(0, true), 5);
        refused("rate", () -> x.rate(2, 0), 2);
        none("rate", () -> x.rate(0, -1), ARGUMENT);
        none("tick", () -> x.tick(100), ARGUMENT);
        due("fault yet", x.fault(), 5);
        due("acts", of(() -> x.acts()), ARGUMENT);
        due("fault", x.fault(), 5);
        due("the tape is used up", tape(), 0);
        due("why", x.why(), 2);
        x.undo();
        none("undo", () -> x.undo(), STATE);
    }

    public static void main(String[] args) {
        known();
        bells();
        dones();
        wires();
        logs();
        merges();
        calendars();
        found();
        ends();
        leasts();
        works();
        queues();
        fullCard();
        images();
        exceptions();
        finish("kept", 1, 0);
    }
}
