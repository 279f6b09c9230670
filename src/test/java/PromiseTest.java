import java.util.NoSuchElementException;
import java.util.function.LongSupplier;

/** Each promise of the document by hand: ordinary inputs, the edges that it names, wrong inputs. */
public final class PromiseTest {
    static final long INDEX = -1001;
    static final long ARGUMENT = -1002;
    static final long STATE = -1003;
    static final long ELEMENT = -1004;

    static int wrong = 0;
    static int asked = 0;
    static CardCutter x;

    static void due(String what, long got, long want) {
        asked++;
        if (got != want) {
            wrong++;
            System.out.println(what + " answered " + got + ", due is " + want);
        }
    }

    static void due(String what, boolean got, boolean want) {
        due(what, got ? 1 : 0, want ? 1 : 0);
    }

    /** The answer, or the number of the exception's class. */
    static long of(LongSupplier call) {
        try {
            return call.getAsLong();
        } catch (IndexOutOfBoundsException e) {
            return e.getClass() == IndexOutOfBoundsException.class ? INDEX : -2000;
        } catch (NoSuchElementException e) {
            return e.getClass() == NoSuchElementException.class ? ELEMENT : -2000;
        } catch (IllegalArgumentException e) {
            return e.getClass() == IllegalArgumentException.class ? ARGUMENT : -2000;
        } catch (IllegalStateException e) {
            return e.getClass() == IllegalStateException.class ? STATE : -2000;
        }
    }

    static void feedAll(String text) {
        for (int i = 0; i < text.length(); i += 20) {
            int[] v = new int[5];
            for (int j = 0; j < 20; j++) {
                v[j / 4] = v[j / 4] << 8 | (i + j < text.length() ? text.charAt(i + j) : 0);
            }
            x.feed(v[0], v[1], v[2], v[3], v[4]);
        }
        x.end(text.length());
    }

    static long tell(String text) {
        feedAll(text);
        return of(() -> x.acts());
    }

    static void right(String text, int acts) {
        due("acts of '" + text + "'", tell(text), acts);
        due("fault of '" + text + "'", x.fault(), -1);
    }

    static void wrongAt(String text, int where) {
        due("acts of '" + text + "'", tell(text), ARGUMENT);
        due("fault of '" + text + "'", x.fault(), where);
    }

    static void make(String text) {
        x = new CardCutter();
        due("acts of '" + text + "'", tell(text) >= 0, true);
    }

    static void newObject() {
        x = new CardCutter();
        int[] first = {4, 10, 1, 0, 0, 0, 0, 0, 0, 0, 0, 0, 0, 0, 0, 0, 0, 0, 0};
        for (int i = 0; i < first.length; i++) {
            due("new count " + i, x.count(i), first[i]);
        }
        due("new flow", of(() -> x.flow(0, 0)), INDEX);
        due("new why", x.why(), 0);
        due("new fault", x.fault(), -1);
        due("new back", x.back(), false);
        due("NONE", CardCutter.NONE, -1);
    }

    static void tape() {
        x = new CardCutter();
        for (int i = 1; i <= 20; i++) {
            due("feed", x.feed(0x20202020, 0x20202020, 0x20202020, 0x20202020, 0x20202020), 20 * i);
        }
        due("feed too much", x.feed(0, 0, 0, 0, 0), -1);
        due("end below 0", x.end(-1), false);
        due("end beyond", x.end(401), false);
        due("end at all", x.end(400), true);
        due("end", x.end(381), true);
        due("feed over 400", x.feed(0, 0, 0, 0, 0), -1);
        due("end", x.end(380), true);
        due("feed to 400", x.feed(0x20202020, 0x20202020, 0x20202020, 0x20202020, 0x62656c6c), 400);
        due("acts with bell at the very end", of(() -> x.acts()), 1);
        due("the tape is used up", x.feed(0, 0, 0, 0, 0), 20);
        due("acts of signs 0", of(() -> x.acts()), ARGUMENT);
        due("fault", x.fault(), 0);
        due("used up by a wrong text too", x.end(1), false);
        due("end 0", x.end(0), true);
        due("highest byte first", x.feed(0x62656c6c, 0x3b74696b, 0, 0, 0), 20);
        due("end", x.end(8), true);
        due("acts", of(() -> x.acts()), ARGUMENT);
        due("fault", x.fault(), 5);
    }

    static void texts() {
        x = new CardCutter();
        right("", 0);
        right("    ", 0);
        right("  bell  ", 1);
        right("flow0from0;send0 1 10at0;tick99", 3);
        right("card 0001 40 8 ; flow 999 from 9999;rate 0 0;pause 0;go 0", 5);
        right("flow 0;flow 0;flow 0;flow 0;flow 0", 5);
        right("bell;bell;bell;bell;bell;bell;bell;bell;bell;bell;bell;bell;bell;bell", 14);
        wrongAt("bell;bell;bell;bell;bell;bell;bell;bell;bell;bell;bell;bell;bell;bell; bell", 71);
        wrongAt("bell;bell;bell;bell;bell;bell;bell;bell;bell;bell;bell;bell;bell;bell;", 70);
        wrongAt(";", 0);
        wrongAt("bell;;bell", 5);
        wrongAt("bell bell", 5);
        wrongAt("bell 5", 5);
        wrongAt("bell;  ", 7);
        wrongAt("5", 0);
        wrongAt("bells", 0);
        wrongAt("Bell", 0);
        wrongAt("bel", 0);
        wrongAt("bellz", 0);
        wrongAt("bella", 0);
        wrongAt("bell{", 4);
        wrongAt("bell`", 4);
        wrongAt("tick 1/", 6);
        wrongAt("tick 1:", 6);
        wrongAt("bell" + (char) 233, 4);
        wrongAt("card", 4);
        wrongAt("card 4 ", 7);
        wrongAt("card 4 10", 9);
        wrongAt("card 0 10 1", 5);
        wrongAt("card 9 10 1", 5);
        wrongAt("card 8 41 1", 7);
        wrongAt("card 8 40 0", 10);
        wrongAt("card 8 40 8 8", 12);
        wrongAt("card 00008 40 8", 5);
        wrongAt("card x", 5);
        wrongAt("card ;", 5);
        wrongAt("tick 100", 5);
        wrongAt("tick 0", 5);
        wrongAt("tick -1", 5);
        wrongAt("drop 10000", 5);
        wrongAt("pause 6", 6);
        wrongAt("go 6", 3);
        wrongAt("rate 6 1", 5);
        wrongAt("rate 0 1000", 7);
        wrongAt("rate 0", 6);
        x = new CardCutter();
        wrongAt("flow 1000", 5);
        wrongAt("flow 1 from", 11);
        wrongAt("flow 1 from 10000", 12);
        wrongAt("flow 1 at 1", 7);
        wrongAt("flow 1 from 1 from 1", 14);
        wrongAt("flow 1;send 6 1 10", 12);
        wrongAt("flow 1;send 0 0 10", 14);
        wrongAt("flow 1;send 0 201 10", 14);
        wrongAt("flow 1;send 0 1 9", 16);
        wrongAt("flow 1;send 0 1 101", 16);
        wrongAt("flow 1;send 0 1 10 from 1", 19);
        wrongAt("flow 1;send 0 1 10 at", 21);
        wrongAt("flow 1;send 0 1 10 at 10000", 22);
        due("of a wrong text nothing stays", x.count(3), 0);
        wrongAt("tick 9; send 0 1 10", 8);
        due("no tick stays", x.count(4), 0);
        wrongAt("drop 0; nothing", 0);
        wrongAt("drop 0 0", 0);
        wrongAt("drop 0 x", 0);
        wrongAt("drop", 4);
    }

    static void whys() {
        x = new CardCutter();
        wrongAt("flow 1;flow 1;flow 1;flow 1;flow 1;flow 1;flow 1", 42);
        due("why 1", x.why(), 1);
        wrongAt("bell;x", 5);
        due("a text that is wrong otherwise leaves it", x.why(), 1);
        right(" ", 0);
        due("one without an act leaves it", x.why(), 1);
        right("bell", 1);
        due("a right one", x.why(), 0);
        due("send", of(() -> x.send(0, 1, 10, 0)), STATE);
        due("why 2", x.why(), 2);
        due("a number that is none", of(() -> x.send(0, 0, 10, 0)), ARGUMENT);
        due("leaves it", x.why(), 2);
        due("bell", x.bell(), 0);
        due("why of one done", x.why(), 0);
        wrongAt("go 0", 0);
        due("why 2", x.why(), 2);
        wrongAt("flow 1;go 0", 7);
        due("why 5", x.why(), 5);
        wrongAt("card 1 10 8;flow 0;send 0 1 10;send 0 1 10", 31);
        due("why 3", x.why(), 3);
        wrongAt("drop 9999", 0);
        due("why 4", x.why(), 4);
        due("undo of the bell", of(() -> x.undo()), 0);
        due("undo leaves it", x.why(), 4);
    }

    static void sends() {
        make("card 2 10 2;flow 0");
        due("send", of(() -> x.send(0, 1, 10, 0)), 0);
        due("posted", x.told(0, 4), 0);
        due("no bell", x.count(8), 0);
        due("send", of(() -> x.send(0, 200, 100, 9999)), 1);
        due("the bell rings for two", x.count(8), 1);
        due("seen", x.told(0, 4), 1);
        due("saved", x.count(9), 1);
        due("full", of(() -> x.send(0, 1, 10, 0)), STATE);
        due("why 3", x.why(), 3);
        due("no flow goes first", of(() -> x.send(1, 1, 10, 0)), STATE);
        due("why 2", x.why(), 2);
        due("flow -1", of(() -> x.send(-1, 1, 10, 0)), STATE);
        int[][] bad = {{0, 10, 0}, {-5, 10, 0}, {201, 10, 0}, {1, 9, 0}, {1, 101, 0}, {1, 10, -1}, {1, 10, 10000},
            {Integer.MAX_VALUE, 10, 0}, {1, Integer.MIN_VALUE, 0}};
        for (int[] b : bad) {
            due("bad send", of(() -> x.send(9, b[0], b[1], b[2])), ARGUMENT);
        }
        due("tick", of(() -> x.tick(3)), 1);
        due("reclaimed", x.count(6), 1);
        due("a slot again", of(() -> x.send(0, 1, 10, 0)), 2);
        due("known no more", of(() -> x.told(0, 0)), INDEX);
        due("dropped ones do not ring", of(() -> x.drop(2)), 0);
        due("told dropped", x.told(2, 4), 3);
        due("seen never", x.told(2, 6), -1);
        due("no place", x.told(2, 8), -1);
    }

    static void bells() {
        make("card 8 10 8;flow 0 from 7;flow 0");
        due("bell by hand", x.bell(), 0);
        due("counts", x.count(8), 1);
        due("saves none", x.count(9), 0);
        x.send(0, 10, 10, 0);
        x.send(1, 20, 10, 0);
        x.send(0, 30, 10, 0);
        x.drop(0);
        due("open", x.count(7), 2);
        x.tick(4);
        due("bell", x.bell(), 2);
        due("seen at", x.told(1, 6), 4);
        due("place of the second flow", x.told(1, 8), 0);
        due("a send that was not seen has no bytes in place", x.told(2, 8), 7);
        due("saved", x.count(9), 1);
        x.send(0, 5, 10, 0);
        x.drop(2);
        x.bell();
        due("one seen and dropped has", x.told(3, 8), 37);
    }

    static void drops() {
        make("card 4 10 1;flow 10;flow 0");
        x.send(0, 50, 20, 0);
        x.send(0, 8, 10, 0);
        due("depart behind", x.piece(1, 0, 1), 32 + 32 + 22);
        due("drop", of(() -> x.drop(0)), 3);
        due("reclaimed at once", x.count(6), 1);
        due("no pieces", x.told(0, 5), 0);
        due("state", x.told(0, 4), 3);
        due("seen stays", x.told(0, 6), 0);
        due("no piece", of(() -> x.piece(0, 0, 0)), INDEX);
        due("no holder", of(() -> x.holder(0, 0)), INDEX);
        due("timed anew", x.piece(1, 0, 1), 0);
        due("drop again", of(() -> x.drop(0)), STATE);
        due("why 4", x.why(), 4);
        due("no such send", of(() -> x.drop(2)), STATE);
        due("below 0", of(() -> x.drop(-1)), STATE);
        x.tick(1);
        due("one left", of(() -> x.drop(1)), STATE);
        x.tick(1);
        due("done", x.told(1, 4), 2);
        due("one done", of(() -> x.drop(1)), STATE);
    }

    static void pausesAndRates() {
        make("card 4 10 1;flow 10");
        x.send(0, 50, 20, 0);
        due("pause", of(() -> x.pause(0, false)), 3);
        due("paused", x.flow(0, 2), 1);
        due("again", of(() -> x.pause(0, false)), STATE);
        due("why 5", x.why(), 5);
        due("no flow", of(() -> x.pause(1, false)), STATE);
        due("why 2", x.why(), 2);
        due("tick", of(() -> x.tick(3)), 0);
        due("starved", x.count(15), 3);
        due("go", of(() -> x.pause(0, true)), 3);
        due("go again", of(() -> x.pause(0, true)), STATE);
        due("tick", of(() -> x.tick(1)), 1);
        due("pause", of(() -> x.pause(0, false)), 2);
        due("rate", of(() -> x.rate(0, 100)), 10);
        due("rate is told", x.flow(0, 0), 100);
        due("depart of one that left stays", x.piece(0, 0, 1), 0);
        due("gap of one that left, by the rate now", x.piece(0, 1, 1), 4);
        due("and on", x.piece(0, 2, 1), 8);
        due("next", x.flow(0, 4), 8 + 3);
        due("no rate", of(() -> x.rate(0, 0)), 100);
        due("no gaps", x.piece(0, 2, 1), 0);
        due("rate -1", of(() -> x.rate(7, -1)), ARGUMENT);
        due("rate 1000", of(() -> x.rate(0, 1000)), ARGUMENT);
        due("no flow", of(() -> x.rate(1, 999)), STATE);
        due("why 2", x.why(), 2);
    }

    static void pausesAndRatesByText() {
        make("flow 1;flow 2;flow 3;flow 4;flow 5;flow 6;pause 5;pause 4;go 5;rate 5 999;rate 4 0");
        due("gone on", x.flow(5, 2), 0);
        due("paused", x.flow(4, 2), 1);
        due("not paused", x.flow(3, 2), 0);
        due("rate", x.flow(5, 0), 999);
        due("rate", x.flow(4, 0), 0);
        right("send 5 40 10 at 7;drop 0;send 5 1 10;go 4;pause 5", 5);
        due("dropped", x.told(0, 4), 3);
        due("at", x.told(0, 3), 7);
        due("at without", x.told(1, 3), 0);
        wrongAt("go 4", 0);
        wrongAt("pause 5", 0);
    }

    static void farPlaces() {
        make("card 8 40 8;flow 0 from 9999");
        String eight = "send 0 200 100;send 0 200 100;send 0 200 100;send 0 200 100;send 0 200 100;send 0 200 100;"
            + "send 0 200 100;send 0 200 100;tick 99";
        for (int i = 0; i < 35; i++) {
            right(eight, 9);
        }
        due("place of send 272", x.told(272, 8), 9999 + 272 * 200);
        due("upper 16 bits", x.octet(277, 1, 5), 0);
        due("lower 16 bits", x.octet(277, 1, 6) * 256 + x.octet(277, 1, 7), 65499);
        due("upper 16 bits", x.octet(278, 0, 5), 1);
        due("their higher byte", x.octet(278, 0, 4), 0);
        due("lower 16 bits", x.octet(278, 0, 6) * 256 + x.octet(278, 0, 7), 63);
        due("where", x.log(x.count(16) - 4, 7), 65599);
        due("64 times 278", x.octet(278, 1, 2) * 256 + x.octet(278, 1, 3), 64 * 278 + 1);
    }

    static void ticks() {
        make("card 4 10 1;flow 0;flow 0");
        due("tick 0", of(() -> x.tick(0)), ARGUMENT);
        due("tick 100", of(() -> x.tick(100)), ARGUMENT);
        x.send(0, 8, 10, 5);
        x.send(1, 9, 10, 3);
        due("none ahead of its time", of(() -> x.tick(3)), 0);
        due("then", of(() -> x.tick(1)), 1);
        due("on the wire", x.count(17), 1);
        due("not gone", x.piece(1, 0, 3), -1);
        due("21 bytes take 3 ticks", of(() -> x.tick(2)), 0);
        due("gone", x.piece(1, 0, 3), 6);
        due("done at", x.told(1, 7), 6);
        due("early", x.count(11), 1);
        due("held", x.count(12), 1);
        due("20 bytes take 2", of(() -> x.tick(2)), 1);
        due("left late", x.log(1, 6), 1);
        due("done", x.told(0, 7), 8);
        due("reclaimed", x.count(6), 2);
        due("held", x.count(12), 0);
        due("busy", x.count(13), 5);
        due("idle", x.count(14), 3);
        due("starved", x.count(15), 0);
        for (int i = 0; i < 100; i++) {
            x.tick(99);
        }
        x.send(0, 200, 100, 9997);
        due("as far as they can be", of(() -> x.tick(99)), 1);
        due("time", x.count(4), 9999);
        due("never gone", x.piece(2, 0, 3), -1);
        due("none can be", of(() -> x.tick(1)), STATE);
        due("why 6", x.why(), 6);
        due("wrong number first", of(() -> x.tick(0)), ARGUMENT);
        wrongAt("tick 1", 0);
        due("why 6", x.why(), 6);
        due("not on paper either", x.ends(2), -1);
        due("last", x.last(), -1);
        due("quiet", x.quiet(), -1);
        due("works", of(() -> x.works(9999)), 0);
        due("works", of(() -> x.works(9998)), ARGUMENT);
    }

    static void choice() {
        make("card 8 40 8;flow 0;flow 0;flow 0");
        x.send(2, 10, 10, 2);
        x.send(1, 20, 10, 1);
        x.send(0, 10, 10, 2);
        x.bell();
        x.tick(4);
        due("least depart", x.log(0, 0), 1);
        due("its next piece", x.log(1, 0), 1);
        due("then number 1", x.log(1, 1), 1);
        due("then the least send", x.log(2, 0), 0);
        due("not yet", x.log(3, 0), -1);
        x.tick(1);
        due("then the other", x.log(3, 0), 2);
        due("left", x.log(3, 5), 4);
    }

    static void undos() {
        make("flow 0");
        due("none", of(() -> x.undo()), STATE);
        for (int i = 1; i <= 10; i++) {
            x.tick(i);
            due("remembered", x.count(18), Math.min(i, 8));
        }
        of(() -> x.send(5, 1, 10, 0));
        due("a refused one is not remembered", x.count(18), 8);
        due("undo", of(() -> x.undo()), 7);
        due("ticks of one call are one", x.count(4), 45);
        for (int i = 0; i < 7; i++) {
            x.undo();
        }
        due("the eldest are forgotten", x.count(4), 3);
        due("none", of(() -> x.undo()), STATE);
        x.send(0, 30, 10, 0);
        x.tick(1);
        x.rate(0, 5);
        due("undo of a rate", of(() -> x.undo()), 2);
        due("rate", x.flow(0, 0), 0);
        due("next", x.flow(0, 4), 3);
        x.undo();
        due("log", x.count(16), 0);
        due("left", x.piece(0, 0, 2), -1);
        wrongAt("bell;x", 5);
        due("a wrong text leaves them", x.count(18), 1);
        right("bell", 1);
        due("a right one does not", x.count(18), 0);
        x.bell();
        right("", 0);
        due("nor does one without acts", x.count(18), 0);
    }

    static void piecesAndBytes() {
        make("card 4 10 1;flow 0 from 9999;flow 0 from 1");
        x.send(1, 10, 10, 0);
        x.send(0, 25, 10, 4);
        int[] told = {0, 25, 10, 4, 1, 3, 0, -1, 9999};
        for (int i = 0; i < told.length; i++) {
            due("told " + i, x.told(1, i), told[i]);
        }
        due("told 9", of(() -> x.told(1, 9)), ELEMENT);
        due("told -1", of(() -> x.told(1, -1)), ELEMENT);
        due("no send goes first", of(() -> x.told(2, 9)), INDEX);
        due("size", x.piece(1, 0, 0), 22);
        due("size of the rest", x.piece(1, 2, 0), 17);
        due("what 5", of(() -> x.piece(1, 0, 5)), ELEMENT);
        due("what -1", of(() -> x.piece(1, 0, -1)), ELEMENT);
        due("piece 3", of(() -> x.piece(1, 3, 9)), INDEX);
        due("piece -1", of(() -> x.piece(1, -1, 0)), INDEX);
        int where = 9999 + 20;
        int[] bytes = {0, 17, 0, 66, 0, 0, where / 256, where % 256, 0, 2};
        int sum = 17 + 66 + where + 2;
        for (int i = 0; i < bytes.length; i++) {
            due("byte " + i, x.octet(1, 2, i), bytes[i]);
        }
        for (int i = 12; i < 17; i++) {
            int j = 20 + i - 12;
            int b = (j * j + 13 * j + 7) % 256;
            due("byte " + i, x.octet(1, 2, i), b);
            sum += i % 2 == 0 ? 256 * b : b;
        }
        sum = 65535 - (sum / 65536 + sum % 65536);
        due("sum", x.piece(1, 2, 4), sum);
        due("sum's higher byte", x.octet(1, 2, 10), sum / 256);
        due("sum's lower byte", x.octet(1, 2, 11), sum % 256);
        due("byte 17", of(() -> x.octet(1, 2, 17)), INDEX);
        due("byte -1", of(() -> x.octet(1, 2, -1)), INDEX);
        due("first of several", x.octet(1, 0, 9), 1);
        due("middle of several", x.octet(1, 1, 9), 0);
        due("the only one, of flow 1", x.octet(0, 0, 9), 16 + 3);
        due("holder", x.holder(1, 0), 0);
        due("holder", x.holder(1, 9), 0);
        due("holder", x.holder(1, 10), 1);
        due("holder", x.holder(1, 24), 2);
        due("holder", of(() -> x.holder(1, 25)), INDEX);
        due("holder", of(() -> x.holder(1, -1)), INDEX);
        due("holder", of(() -> x.holder(-1, 0)), INDEX);
    }

    static void findsAndBlind() {
        make("card 4 10 1;flow 0 from 9999;flow 0 from 1");
        x.send(1, 10, 10, 0);
        x.send(0, 25, 10, 4);
        for (int i = 0; i < 17; i++) {
            int k = i;
            int b = x.octet(1, 2, i);
            due("as it is", x.finds(1, 2, k, b), false);
            due("one more", x.finds(1, 2, k, b + 1 & 255), true);
        }
        due("no byte", of(() -> x.finds(1, 2, 17, 999) ? 1 : 0), INDEX);
        due("v -1", of(() -> x.finds(1, 2, 0, -1) ? 1 : 0), ARGUMENT);
        due("v 256", of(() -> x.finds(1, 2, 0, 256) ? 1 : 0), ARGUMENT);
        // Words of the 17 bytes: 17, 66, 0, 10019, 2, then (20, 21), (22, 23): bytes 155 and 209, 9 and 67.
        due("7 whole words, all unlike", x.blind(1, 2), 21);
        due("10 words, of which two are 0", x.blind(0, 0), 10 * 9 / 2 - 1);
        due("no piece", of(() -> x.blind(1, 3)), INDEX);
        due("no send", of(() -> x.blind(2, 0)), INDEX);
        make("flow 0");
        x.send(0, 1, 10, 0);
        due("5 words, 1 byte alone: 13, 0, 0, 0, 3", x.blind(0, 0), 10 - 3);
    }

    static void rows() {
        make("card 8 10 8;flow 0;flow 0 from 50;flow 0");
        x.send(0, 20, 10, 0);
        x.send(1, 8, 10, 1);
        x.send(0, 18, 10, 10);
        x.send(1, 8, 10, 30);
        x.bell();
        due("delay without rows", of(() -> x.delay(0)), -1);
        due("share without rows", of(() -> x.share(0)), 0);
        due("burst without rows", of(() -> x.burst(0, 99)), 0);
        due("merged without rows", of(() -> x.merged(0, false)), 0);
        due("bytes without rows", of(() -> x.merged(0, true)), 0);
        due("rest without rows", x.rest(), -1);
        x.drop(2);
        x.tick(40);
        // Flow 0: 22 bytes at 0 to 3, 22 at 3 to 6; flow 1: 20 at 6 to 8, 20 at 30 to 32.
        due("rows", x.count(16), 4);
        int[] row = {1, 0, 1, 20, 1, 6, 5, 50};
        for (int i = 0; i < row.length; i++) {
            due("row 2, " + i, of(() -> x.log(2, 0)), 1);
            due("row 2, " + i, x.log(2, i), row[i]);
        }
        due("row 4", x.log(4, 0), -1);
        due("row -1", x.log(-1, 6), -1);
        due("what 8", of(() -> x.log(0, 8)), ELEMENT);
        due("what -1", of(() -> x.log(9, -1)), ELEMENT);
        due("latest", x.latest(0), 2);
        due("latest", x.latest(1), 1);
        due("like ones: the eldest", x.latest(2), 0);
        due("then", x.latest(3), 3);
        due("none", x.latest(4), -1);
        due("none", x.latest(-1), -1);
        due("burst of 3", x.burst(0, 3), 22);
        due("burst of 4", x.burst(0, 4), 44);
        due("burst of 24", x.burst(1, 24), 20);
        due("burst of 25", x.burst(1, 25), 40);
        due("burst 0", of(() -> x.burst(0, 0)), ARGUMENT);
        due("burst 100", of(() -> x.burst(0, 100)), ARGUMENT);
        due("no flow first", of(() -> x.burst(3, 100)), INDEX);
        due("merged", x.merged(0, false), 1);
        due("merged bytes", x.merged(0, true), 20);
        due("of several sends", x.merged(1, false), 1);
        due("of several sends", x.merged(1, true), 16);
        due("no flow", of(() -> x.merged(-1, false)), INDEX);
        due("share", x.share(0), 4400 / 84);
        due("share", x.share(1), 4000 / 84);
        due("share of none", x.share(2), 0);
        due("no flow", of(() -> x.share(3)), INDEX);
        due("delay", x.delay(0), 150);
        due("delay", x.delay(1), 250);
        due("no flow", of(() -> x.delay(3)), INDEX);
        due("rest", x.rest(), 22);
        due("jitter of 2 rows", x.flow(1, 7), -1);
    }

    static void manyRows() {
        make("card 8 40 1;flow 0;flow 0");
        for (int i = 0; i < 25; i++) {
            x.send(0, 20 - i % 2, 10, 0);
            if (i % 5 == 0) {
                x.tick(2);
            }
            x.tick(2);
        }
        due("40 rows", x.count(16), 40);
        due("the eldest is send 5's first", x.log(0, 0), 5);
        due("row 39", x.log(39, 0), 24);
        due("row 40", x.log(40, 0), -1);
        due("done", x.count(10), 25);
        due("the latest", x.done(0, false), 24);
        due("the latest's time", x.done(0, true), 60);
        due("the 20th", x.done(19, false), 5);
        due("the 21st is forgotten", x.done(20, false), -1);
        due("and its time", x.done(20, true), -1);
        due("below 0", x.done(-1, true), -1);
        due("jitter", x.flow(0, 7), 2);
        due("bytes gone", x.flow(0, 5), 25 * 20 - 12);
        due("sends done", x.flow(0, 6), 25);
        due("of another flow", x.flow(1, 6), 0);
        due("place", x.told(24, 8), 24 * 20 - 12);
        due("merged bytes", x.merged(0, true), 20 * 20 - 10);
        due("known", of(() -> x.told(17, 0)), 0);
        due("not known", of(() -> x.told(16, 0)), INDEX);
        due("flow 8", of(() -> x.flow(0, 8)), ELEMENT);
        due("no flow", of(() -> x.flow(2, 8)), INDEX);
    }

    static void mergedApart() {
        make("card 8 40 1;flow 0");
        x.send(0, 10, 10, 0);
        x.send(0, 30, 10, 0);
        x.drop(1);
        x.send(0, 20, 10, 0);
        x.tick(9);
        due("a send that was dropped is between", x.merged(0, false), 2);
        due("the most", x.merged(0, true), 20);
    }

    static void calendars() {
        make("card 8 10 1;flow 10");
        x.send(0, 30, 10, 0);
        due("0 to 21", x.calendar(22, 0), 1);
        due("22 to 43", x.calendar(22, 1), 1);
        due("44 to 65", x.calendar(22, 2), 1);
        due("66 on", x.calendar(22, 3), 0);
        x.pause(0, false);
        x.tick(30);
        due("less also of k 0", x.calendar(14, 0), 2);
        due("44 is within", x.calendar(15, 0), 3);
        due("44 to 57", x.calendar(14, 1), 1);
        due("9999", x.calendar(99, 9999), 0);
        int[][] bad = {{0, 0}, {100, 0}, {1, -1}, {1, 10000}, {-1, 5}};
        for (int[] b : bad) {
            due("bad calendar", of(() -> x.calendar(b[0], b[1])), ARGUMENT);
        }
    }

    static void onPaper() {
        make("card 8 10 8;flow 0;flow 20;flow 0");
        x.send(0, 8, 10, 0);
        x.send(1, 16, 10, 0);
        x.send(2, 8, 10, 50);
        due("not seen: none", of(() -> x.ends(0)), -1);
        due("no least", of(() -> x.least(0, 9999)), -1);
        due("last: no send is seen", x.last(), 0);
        due("quiet", x.quiet(), 0);
        x.bell();
        x.send(0, 1, 10, 0);
        // 20 bytes at 0 to 2, 22 at 2 to 5 (may leave at 0), 18 at 11 to 13, 20 at 50 to 52.
        due("ends", x.ends(0), 2);
        due("ends", x.ends(1), 13);
        due("ends", x.ends(2), 52);
        due("ends of one not seen", x.ends(3), -1);
        due("no send", of(() -> x.ends(4)), INDEX);
        due("last", x.last(), 52);
        due("quiet", x.quiet(), 5);
        due("works", x.works(4), 4);
        due("works", x.works(11), 5);
        due("works", x.works(12), 6);
        due("works", x.works(9999), 9);
        due("works", of(() -> x.works(10000)), ARGUMENT);
        due("works", of(() -> x.works(-1)), ARGUMENT);
        int[][] order = {{0, 0}, {64, 2}, {65, 11}, {128, 50}};
        for (int i = 0; i < order.length; i++) {
            due("queue " + i, x.queue(i, false), order[i][0]);
            due("queue " + i, x.queue(i, true), order[i][1]);
        }
        due("queue 4", x.queue(4, true), -1);
        due("queue -1", x.queue(-1, false), -1);
        due("queue beyond", x.queue(Integer.MAX_VALUE, false), -1);
        due("first", x.first(false), 0);
        due("first", x.first(true), 0);
        due("nothing stays", x.count(4), 0);
        due("nothing stays", x.count(16), 0);
        x.tick(1);
        due("first", x.first(false), 64);
        due("first", x.first(true), 2);
        due("the wire has it yet", x.works(3), 2);
        x.pause(1, false);
        due("paused", x.ends(1), -1);
        due("last: some would not", x.last(), -1);
        due("quiet", x.quiet(), 2);
        due("least of one paused", x.least(1, 9999), -1);
        x.pause(1, true);
        x.tick(60);
        due("as it was", x.ends(2), 52);
        due("last of all done", x.last(), 61);
        due("first of none", x.first(true), -1);
        due("least of one done", x.least(2, 9999), -1);
    }

    static void leasts() {
        make("card 8 10 1;flow 0;flow 0");
        x.send(0, 20, 10, 0);
        due("3 ticks and 3", x.least(0, 6), 74);
        due("not earlier", x.least(0, 5), -1);
        due("22 by 1 rate is a gap of 220", x.least(0, 223), 1);
        due("one tick less", x.least(0, 222), 2);
        due("at 0", x.least(0, 0), -1);
        due("at 9999", x.least(0, 9999), 1);
        due("time -1", of(() -> x.least(0, -1)), ARGUMENT);
        due("time 10000", of(() -> x.least(0, 10000)), ARGUMENT);
        due("no send first", of(() -> x.least(1, 10000)), INDEX);
        due("the rate stays", x.flow(0, 0), 0);
        due("and the times", x.piece(0, 1, 1), 0);
        x.tick(4);
        due("all left: any rate", x.least(0, 6), 1);
        due("but not earlier", x.least(0, 5), -1);
        x.send(0, 1, 10, 0);
        x.send(1, 1, 10, 0);
        x.drop(1);
        due("dropped", x.least(1, 9999), -1);
        due("ends of one dropped", x.ends(1), -1);
    }

    static void images() {
        make("flow 0");
        due("no image", x.back(), false);
        x.tick(5);
        x.image();
        due("an image is no act", x.count(18), 1);
        x.send(0, 10, 10, 0);
        x.tick(9);
        of(() -> x.drop(0));
        wrongAt("flow x", 5);
        feedAll("tick 1");
        due("back", x.back(), true);
        due("time", x.count(4), 5);
        due("sends", x.count(5), 0);
        due("none remembered", x.count(18), 0);
        due("why stays", x.why(), 4);
        due("fault stays", x.fault(), 5);
        due("the tape stays", of(() -> x.acts()), 1);
        due("time", x.count(4), 6);
        right("card 1 1 1", 1);
        due("the image stays", x.back(), true);
        due("ring", x.count(0), 4);
        due("time", x.count(4), 5);
        due("back again", x.back(), true);
        x.tick(1);
        x.undo();
        x.image();
        x.tick(9);
        due("one image", x.back(), true);
        due("time", x.count(4), 5);
    }

    static void counts() {
        make("card 3 7 2;flow 0;flow 0");
        due("ring", x.count(0), 3);
        due("wire", x.count(1), 7);
        due("batch", x.count(2), 2);
        due("flows", x.count(3), 2);
        x.send(0, 1, 10, 0);
        due("posted", x.count(5), 1);
        due("open", x.count(7), 1);
        due("count -1", x.count(-1), -1);
        due("count 19", x.count(19), -1);
        right("card 5 6 7", 1);
        int[] as = {5, 6, 7, 0, 0, 0, 0, 0, 0, 0, 0, 0, 0, 0, 0, 0, 0, 0, 0};
        for (int i = 0; i < as.length; i++) {
            due("count " + i, x.count(i), as[i]);
        }
        due("no send", of(() -> x.told(0, 0)), INDEX);
        due("no row", x.log(0, 0), -1);
        due("none done", x.done(0, false), -1);
        right("flow 10;send 0 1 10", 2);
        due("numbers begin anew", x.told(0, 1), 1);
        due("next is as at first", x.flow(0, 4), 0);
    }

    public static void main(String[] args) {
        newObject();
        tape();
        texts();
        whys();
        sends();
        bells();
        drops();
        pausesAndRates();
        pausesAndRatesByText();
        farPlaces();
        ticks();
        choice();
        undos();
        piecesAndBytes();
        findsAndBlind();
        rows();
        manyRows();
        mergedApart();
        calendars();
        onPaper();
        leasts();
        images();
        counts();
        System.out.println("promises: " + asked + " answers asked, " + wrong + " wrong");
        if (wrong != 0) {
            System.exit(1);
        }
    }
}
