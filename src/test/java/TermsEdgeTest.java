import java.util.function.LongSupplier;

/** The boundary cases that the document's terms name up to TAKEN BACK and WHY: bounds, texts, acts, pieces, ticks. */
public final class TermsEdgeTest extends Asked {
    static final String SIX_FLOWS = "flow 0;flow 0;flow 0;flow 0;flow 0;flow 0";

    static void fresh(String setup) {
        if (setup.isEmpty()) {
            x = new CardCutter();
        } else {
            make(setup);
        }
    }

    /** A number of a text: its least and its most are right, what is beyond is wrong where it begins. */
    static void number(String setup, String ahead, String behind, int least, int most, LongSupplier value) {
        int acts = (ahead + behind).split(";").length;
        for (int v : new int[] {least, least + 1, most - 1, most}) {
            fresh(setup);
            right(ahead + v + behind, acts);
            due("told by '" + ahead + v + behind + "'", value.getAsLong(), v);
            fresh(setup);
            right(ahead + String.format("%04d", v) + behind, acts);
            due("told with 4 digits by '" + ahead + v + behind + "'", value.getAsLong(), v);
            fresh(setup);
            wrongAt(ahead + String.format("%05d", v) + behind, ahead.length());
        }
        fresh(setup);
        if (least > 0) {
            wrongAt(ahead + (least - 1) + behind, ahead.length());
        }
        wrongAt(ahead + (most + 1) + behind, ahead.length());
        wrongAt(ahead + "99999" + behind, ahead.length());
        wrongAt(ahead + "4294967297" + behind, ahead.length());
        wrongAt(ahead + "-1" + behind, ahead.length());
        wrongAt(ahead + "x" + behind, ahead.length());
        wrongAt(ahead + ";" + behind, ahead.length());
        wrongAt(ahead, ahead.length());
    }

    /** All kinds of sends and flows at once, three acts of calls being remembered. */
    static void rich() {
        make("card 6 7 2;flow 30 from 100;flow 0;flow 7 from 3;send 0 45 20;send 1 33 10;tick 9;send 2 12 10;"
            + "send 1 9 10 at 40;tick 5;pause 1");
        x.send(0, 30, 10, 0);
        x.tick(3);
        x.rate(2, 8);
        due("remembered", x.count(18), 3);
    }

    static void card() {
        terms(4, "RING 1 to 8 slots");
        number("", "card ", " 10 1", 1, 8, () -> x.count(0));
        terms(4, "WIRE 1 to 40 bytes a TICK");
        number("", "card 4 ", " 1", 1, 40, () -> x.count(1));
        terms(4, "BATCH 1 to 8;");
        number("", "card 4 10 ", "", 1, 8, () -> x.count(2));
        terms(12, "TIME 0 to 9999");
        due("time", x.count(4), 0);
        toTime(9999);
        due("time", x.count(4), 9999);
        refused("tick", () -> x.tick(1), 6);
        terms(1, "At first RING 4, WIRE 10, BATCH 1, no FLOWS, TIME 0.");
        int[] first = {4, 10, 1, 0, 0};
        for (int what = 0; what < first.length; what++) {
            due("count " + what, x.count(what), first[what]);
        }
        terms(4, "CARD: all is as at first, but RING, WIRE, BATCH.");
        String atFirst = all();
        rich();
        right("card 4 10 1", 1);
        alike("card as at first", all(), atFirst);
        busy();
        right("card 4 10 1", 1);
        alike("card as at first", all(), atFirst);
        alike("flows are as at first", flowsAndOn(), newFlowsAndOn());
        rich();
        toTime(9999);
        right("card 8 40 2", 1);
        due("time", x.count(4), 0);
        due("tick", of(() -> x.tick(99)), 0);
        right("flow 1;send 0 1 10;send 0 1 10", 3);
        due("numbers from 0 on", x.told(1, 8), 1);
        due("no next", x.flow(0, 4), 99 + 130 + 130);
    }

    static String flowsAndOn() {
        right(SIX_FLOWS, 6);
        String flows = all();
        return flows + later();
    }

    static String newFlowsAndOn() {
        x = new CardCutter();
        return flowsAndOn();
    }

    static void flows() {
        terms(18, "FLOWS (at most 6, numbered from 0 on)");
        due("flow 0 of none", of(() -> x.flow(0, 0)), INDEX);
        make("flow 10;flow 11;flow 12;flow 13;flow 14");
        due("flow 5 of 5", of(() -> x.flow(5, 0)), INDEX);
        right("flow 15", 1);
        for (int flow = 0; flow < 6; flow++) {
            due("rate of flow " + flow, x.flow(flow, 0), 10 + flow);
        }
        due("flow 6", of(() -> x.flow(6, 0)), INDEX);
        due("flow -1", of(() -> x.flow(-1, 0)), INDEX);
        wrongBy("flow 16", 0, 1);
        due("flows", x.count(3), 6);
        terms(11, "RATE 0 to 999 bytes in 10 TICKS");
        number("", "flow ", "", 0, 999, () -> x.flow(0, 0));
        number("", "flow ", " from 1", 0, 999, () -> x.flow(0, 0));
        number("flow 5", "rate 0 ", "", 0, 999, () -> x.flow(0, 0));
        terms(11, "(0: as many as one likes)");
        make("card 8 40 1;flow 0");
        x.send(0, 200, 10, 0);
        due("depart of the last", x.piece(0, 19, 1), 0);
        due("next", x.flow(0, 4), 0);
        x.rate(0, 1);
        due("depart by rate 1", x.piece(0, 19, 1), 19 * 220);
        terms(4, "FIRST 0 to 9999");
        number("", "flow 1 from ", "", 0, 9999, () -> x.flow(0, 1));
        terms(10, "PAUSED or not");
        make("flow 1");
        due("at first", x.flow(0, 2), 0);
        x.pause(0, false);
        due("paused", x.flow(0, 2), 1);
        x.pause(0, true);
        due("gone on", x.flow(0, 2), 0);
    }

    static void sends() {
        terms(7, "SENDS are numbered from 0 on as they are POSTED");
        make("card 3 10 3;flow 0;flow 0");
        due("send", of(() -> x.send(1, 1, 10, 0)), 0);
        due("send", of(() -> x.send(0, 1, 10, 0)), 1);
        x.drop(1);
        due("a number is not used again", of(() -> x.send(0, 1, 10, 0)), 2);
        terms(7, "LENGTH 1 to 200 bytes");
        number("flow 0", "send 0 ", " 10", 1, 200, () -> x.told(0, 1));
        terms(7, "CUT 10 to 100");
        number("flow 0", "send 0 1 ", "", 10, 100, () -> x.told(0, 2));
        number("flow 0", "send 0 1 ", " at 1", 10, 100, () -> x.told(0, 2));
        terms(7, "AT 0 to 9999;");
        number("flow 0", "send 0 1 10 at ", "", 0, 9999, () -> x.told(0, 3));
        terms(16, "byte i of SEND n of FLOW f is what is left of i times i, 13 times i, 7 times n and f, together, by"
            + " 256");
        make("card 8 40 1;" + SIX_FLOWS);
        for (int n = 0; n < 80; n++) {
            int flow = n % 6;
            x.send(flow, n == 79 ? 200 : 1, 100, 0);
            due("byte 0 of send " + n, x.octet(n, 0, 12), (7 * n + flow) % 256);
            x.tick(1);
        }
        for (int i = 0; i < 200; i++) {
            due("byte " + i, x.octet(79, i / 100, 12 + i % 100), (i * i + 13 * i + 7 * 79 + 1) % 256);
        }
    }

    static void texts() {
        terms(4, "[ ACT { ; ACT } ], at most 14");
        right("", 0);
        right("bell", 1);
        right("bell;bell", 2);
        right("bell;".repeat(13) + "bell", 14);
        wrongAt("bell;".repeat(14) + "bell", 70);
        wrongAt("bell;".repeat(14) + "  bell", 72);
        wrongAt("bell;".repeat(14), 70);
        wrongAt("bell;".repeat(13) + "bell x", 70);
        wrongAt(";", 0);
        wrongAt(";bell", 0);
        wrongAt("bell;", 5);
        wrongAt("bell;;bell", 5);
        wrongAt("bell bell", 5);
        wrongAt("bell,bell", 4);
        terms(4, "card N N N | flow N [ from N ] | send N N N [ at N ] | bell | drop N | pause N | go N | rate N N |"
            + " tick N");
        forms();
        terms(4, "flow: RATE, FIRST (0 without)");
        right("flow 7;flow 7 from 1", 2);
        due("first without", x.flow(0, 1), 0);
        due("first with", x.flow(1, 1), 1);
        terms(4, "AT (0 without)");
        right("flow 7;send 0 1 10;send 0 1 10 at 9", 3);
        due("at without", x.told(0, 3), 0);
        due("at with", x.told(1, 3), 9);
        terms(4, "drop: a SEND 0 to 9999");
        wrongBy("drop 0", 0, 4);
        wrongBy("drop 9999", 0, 4);
        x.bell();
        wrongAt("drop 10000", 5);
        right("flow 1;send 0 1 10;drop 0", 3);
        terms(4, "pause, go: a FLOW 0 to 5");
        wrongBy("pause 0", 0, 2);
        wrongBy("pause 5", 0, 2);
        wrongBy("go 5", 0, 2);
        x.bell();
        wrongAt("pause 6", 6);
        wrongAt("go 6", 3);
        make(SIX_FLOWS);
        right("pause 5;pause 0", 2);
        for (int flow = 0; flow < 6; flow++) {
            due("paused", x.flow(flow, 2), flow == 0 || flow == 5 ? 1 : 0);
        }
        right("go 5", 1);
        due("flow 0", x.flow(0, 2), 1);
        due("flow 5", x.flow(5, 2), 0);
        right("go 0", 1);
        due("flow 0", x.flow(0, 2), 0);
        wrongAt("pause 6", 6);
        wrongAt("go 6", 3);
        terms(4, "rate: a FLOW 0 to 5, a RATE");
        wrongBy("rate 5 1", 0, 2);
        x.bell();
        wrongAt("rate 6 1", 5);
        make(SIX_FLOWS);
        right("rate 5 999;rate 0 0", 2);
        wrongAt("rate 6 1", 5);
        wrongAt("rate 0 1000", 7);
        terms(4, "(a FLOW of send: 0 to 5)");
        wrongBy("send 5 1 10", 0, 2);
        x.bell();
        wrongAt("send 6 1 10", 5);
        make(SIX_FLOWS);
        right("send 5 1 10;send 0 1 10", 2);
        wrongAt("send 6 1 10", 5);
        terms(4, "tick: 1 to 99 TICKS");
        number("", "tick ", "", 1, 99, () -> x.count(4));
    }

    static void forms() {
        make("flow 1");
        wrongAt("card", 4);
        wrongAt("card 4", 6);
        wrongAt("card 4 10", 9);
        wrongAt("card 4 10 1 1", 12);
        wrongAt("flow", 4);
        wrongAt("flow from 1", 5);
        wrongAt("flow 1 1", 7);
        wrongAt("flow 1 from", 11);
        wrongAt("flow 1 at 1", 7);
        wrongAt("flow 1 from 2 3", 14);
        wrongAt("flow 1 from 2 from 3", 14);
        wrongAt("send", 4);
        wrongAt("send 0", 6);
        wrongAt("send 0 1", 8);
        wrongAt("send 0 1 at 1", 9);
        wrongAt("send 0 1 10 1", 12);
        wrongAt("send 0 1 10 at", 14);
        wrongAt("send 0 1 10 from 1", 12);
        wrongAt("send 0 1 10 at 1 1", 17);
        wrongAt("bell 1", 5);
        wrongAt("pause", 5);
        wrongAt("pause 0 0", 8);
        wrongAt("go", 2);
        wrongAt("rate", 4);
        wrongAt("rate 0", 6);
        wrongAt("rate 0 1 1", 9);
        wrongAt("tick", 4);
        wrongAt("tick 1 1", 7);
        wrongAt("drop", 4);
        wrongAt("at 1", 0);
        wrongAt("from 1", 0);
        wrongAt("1", 0);
        right("send 0 1 10", 1);
        wrongAt("drop 0 0", 7);
        right("drop 0;pause 0;go 0;rate 0 1;tick 1;bell;flow 1;card 1 1 1", 8);
    }

    static void signs() {
        terms(4, "Numbers are of 1 to 4 digits");
        right("tick 1;tick 01;tick 001;tick 0001", 4);
        due("time", x.count(4), 4);
        wrongAt("tick 00001", 5);
        wrongAt("tick 1/", 6);
        wrongAt("tick 1:", 6);
        wrongAt("tick 1 0", 7);
        wrongAt("tick +1", 5);
        terms(4, "words as long as a to z go on");
        right("flow0from0;tick1", 2);
        wrongAt("bel", 0);
        wrongAt("bella", 0);
        wrongAt("bellz", 0);
        wrongAt("bell`", 4);
        wrongAt("bell{", 4);
        wrongAt("bellA", 4);
        wrongAt("Bell", 0);
        wrongAt("be ll", 0);
        wrongAt("flow 0 fro 1", 7);
        wrongAt("flow 0 froma 1", 7);
        wrongAt("send 0 1 10 a 1", 12);
        wrongAt("send 0 1 10 ata 1", 12);
        wrongAt("tick1bell", 5);
        for (String word : "card flow send bell drop pause go rate tick".split(" ")) {
            wrongAt(word.substring(0, word.length() - 1), 0);
            wrongAt(word + "s", 0);
            for (int i = 0; i < word.length(); i++) {
                wrongAt(word.substring(0, i) + "x" + word.substring(i + 1) + " 1 1 1", 0);
            }
        }
        wrongAt("flow 0 xrom 1", 7);
        wrongAt("send 0 1 10 xt 1", 12);
        terms(4, "between all there may be blanks (32), also ahead and behind");
        right("    ", 0);
        right("  card  4   10  1  ;  flow  1  from  2  ;  send  0  1  10  at  3  ;  bell  ", 4);
        right("card4 10 1;flow1from2;send0 1 10at3;drop0;pause0;go0;rate0 1;tick1;bell", 9);
        wrongAt("card410 1", 4);
        for (char sign : new char[] {0, 9, 10, 13, 31, 33, 128 + 32, 255}) {
            wrongAt(sign + "bell", 0);
            wrongAt("bell" + sign, 4);
            wrongAt("tick" + sign + "1", 4);
            wrongAt("" + sign, 0);
        }
    }

    static void firstWrong() {
        terms(4, "They are done one behind another.");
        wrongBy("send 0 1 10;flow 5", 0, 2);
        right("flow 5;send 0 1 10", 2);
        make("card 1 10 1;flow 0;send 0 1 10;tick 2;send 0 1 10;drop 1;send 0 1 10");
        due("each slot is given back ahead of the next send", x.count(5), 3);
        wrongBy("drop 2;send 0 1 10;tick 1;send 0 1 10", 26, 3);
        wrongBy("drop 2;drop 2", 7, 4);
        wrongBy("pause 0;pause 0", 8, 5);
        right("pause 0;go 0;pause 0;rate 0 5;rate 0 6", 5);
        due("the latest rate", x.flow(0, 0), 6);
        terms(5, "The first wrong byte: the begin of the first thing that cannot stand there");
        wrongAt("  bell ;  tock;tick 0", 10);
        wrongAt("tick 0;tock", 5);
        wrongAt("tick 100 100", 5);
        wrongAt("bell;card 9 99 9", 10);
        terms(5, "a number of more digits, or out of its bounds");
        wrongAt("card 4 10 00001", 10);
        wrongAt("card 4 41 9", 7);
        terms(5, "a word that is none");
        wrongAt("bell; bells", 6);
        wrongAt("flow 1 form 1", 7);
        terms(5, "of an ACT too many, or one that is refused, the first word");
        wrongBy("bell;  drop 0", 7, 4);
        wrongBy("flow 1;send 0 1 10;drop 0;  drop 0; x", 28, 4);
        x.bell();
        wrongAt("x;drop 0", 0);
        wrongAt("bell;".repeat(13) + "bell ; bell", 72);
        wrongBy("bell;".repeat(12) + "drop 0;bell;bell", 60, 4);
        wrongBy("bell;".repeat(13) + "drop 0;bell", 65, 4);
        x.bell();
        wrongAt("bell;".repeat(14) + "drop 0", 70);
        terms(5, "or the text's length, if more must come");
        wrongAt("bell;   ", 8);
        wrongAt("tick    ", 8);
        wrongAt("flow 1 from", 11);
        wrongAt("bell;".repeat(14) + "   ", 73);
        String whole = "bell;".repeat(9);
        wrongAt(whole + " ".repeat(400 - whole.length()), 400);
        terms(4, "Of a wrong text nothing stays.");
        rich();
        wrongAt("tick 9;send 2 40 10;bell;pause 2;rate 0 999;go 1;flow 9;tick 99;x", 64);
        wrongAt("card 1 1 1;flow 1;send 0 1 10;bell;tick 1;x", 42);
        wrongBy("card 1 1 1;flow 1;send 0 1 10;send 0 1 10;bell", 30, 3);
        due("remembered yet", of(() -> x.undo()), 2);
        due("taken back", x.flow(2, 0), 7);
        busy();
        String on = later();
        busy();
        wrongAt("send 0 99 10;bell;tick 99;pause 0;rate 1 5;go 2;send 3 9 10;tick 99;go 0;tick 9;x", 80);
        wrongBy("card 7 7 7;flow 3;send 0 99 10;bell;tick 99;pause 0;rate 0 5;drop 0", 61, 4);
        alike("it goes on as it would", later(), on);
    }

    static void refusals() {
        terms(4, "FLOW: one more (refused: 1: there are 6)");
        make("flow 0;flow 0;flow 0;flow 0;flow 0");
        right("flow 0", 1);
        wrongBy("flow 0", 0, 1);
        wrongBy("card 1 1 1;" + SIX_FLOWS + ";flow 0", 53, 1);
        right("card 1 1 1;" + SIX_FLOWS, 7);
        terms(7, "2: there is no such FLOW");
        make("flow 0;flow 0");
        refused("send of flow 2", () -> x.send(2, 1, 10, 0), 2);
        refused("send of flow -1", () -> x.send(-1, 1, 10, 0), 2);
        refused("send of the greatest flow", () -> x.send(Integer.MAX_VALUE, 1, 10, 0), 2);
        refused("send of the least flow", () -> x.send(Integer.MIN_VALUE, 1, 10, 0), 2);
        wrongBy("send 2 1 10", 0, 2);
        due("send of flow 1", of(() -> x.send(1, 1, 10, 0)), 0);
        terms(7, "3: the RING has no slot: POSTED ones that are not RECLAIMED are as many as it");
        slots(1);
        slots(2);
        slots(8);
        make("card 3 40 1;flow 0;flow 0;pause 0");
        x.send(0, 1, 10, 0);
        x.send(1, 1, 10, 0);
        x.send(1, 1, 10, 0);
        x.tick(2);
        due("two are done", x.count(10), 2);
        refused("the least one holds all slots", () -> x.send(1, 1, 10, 0), 3);
        x.drop(0);
        due("all are reclaimed", x.count(6), 3);
        due("send", of(() -> x.send(1, 1, 10, 0)), 3);
        due("send", of(() -> x.send(1, 1, 10, 0)), 4);
        due("send", of(() -> x.send(1, 1, 10, 0)), 5);
        refused("full again", () -> x.send(1, 1, 10, 0), 3);
    }

    static void slots(int ring) {
        make("card " + ring + " 40 8;flow 0");
        for (int n = 0; n < ring; n++) {
            due("send into a ring of " + ring, of(() -> x.send(0, 1, 10, 0)), x.count(5) - 1);
        }
        refused("send into a full ring of " + ring, () -> x.send(0, 1, 10, 0), 3);
        wrongBy("send 0 1 10", 0, 3);
        x.bell();
        refused("seen ones have their slots", () -> x.send(0, 1, 10, 0), 3);
        x.tick(1);
        due("a slot is given back", x.count(6), 1);
        due("send", of(() -> x.send(0, 1, 10, 0)), ring);
        refused("full again", () -> x.send(0, 1, 10, 0), 3);
    }

    static void bells() {
        terms(7, "if so many as BATCH are POSTED then and not SEEN (nor DROPPED), the BELL rings");
        for (int batch = 1; batch <= 8; batch++) {
            make("card 8 40 " + batch + ";flow 0");
            for (int n = 1; n < batch; n++) {
                x.send(0, 1, 10, 0);
            }
            due("bells ahead of batch " + batch, x.count(8), 0);
            due("open ahead of batch " + batch, x.count(7), batch - 1);
            x.send(0, 1, 10, 0);
            due("bells at batch " + batch, x.count(8), 1);
            due("open at batch " + batch, x.count(7), 0);
        }
        make("card 4 40 2;flow 0");
        x.send(0, 1, 10, 0);
        x.drop(0);
        x.send(0, 1, 10, 0);
        due("a dropped one is not counted", x.count(8), 0);
        x.send(0, 1, 10, 0);
        due("two", x.count(8), 1);
        x.send(0, 1, 10, 0);
        due("seen ones are not counted", x.count(8), 1);
        make("card 4 40 5;flow 0;send 0 1 10;send 0 1 10;send 0 1 10;send 0 1 10");
        due("a batch greater than the ring", x.count(8), 0);
        terms(8, "BELL: all that are POSTED are SEEN, by numbers, at TIME");
        make("card 4 40 8;flow 0 from 9;flow 0;send 1 4 10;send 0 5 10;send 0 6 10");
        x.drop(0);
        x.tick(7);
        due("bell", x.bell(), 2);
        due("a dropped one is not seen", x.told(0, 4), 3);
        due("seen at", x.told(1, 6), 7);
        due("seen at", x.told(2, 6), 7);
        due("by numbers", x.told(1, 8), 9);
        due("by numbers", x.told(2, 8), 14);
        terms(8, "(it counts as a BELL also if there are none, by hand)");
        due("bell", x.bell(), 0);
        due("bells", x.count(8), 1);
        due("it can be taken back", of(() -> x.undo()), 0);
        due("bells", x.count(8), 0);
        right("bell", 1);
        due("bells", x.count(8), 1);
    }

    static void cuts() {
        terms(15, "it is cut into PIECES, numbered from 0 on, of CUT bytes, the last one of the rest");
        int[][] cuts = {{1, 100, 1, 1}, {9, 10, 1, 9}, {10, 10, 1, 10}, {11, 10, 2, 1}, {200, 10, 20, 10},
            {199, 10, 20, 9}, {191, 10, 20, 1}, {190, 10, 19, 10}, {200, 100, 2, 100}, {101, 100, 2, 1},
            {100, 100, 1, 100}, {99, 100, 1, 99}};
        for (int[] c : cuts) {
            make("flow 0");
            x.send(0, c[0], c[1], 0);
            String what = c[0] + " by " + c[1];
            due("pieces of " + what, x.told(0, 5), c[2]);
            due("last of " + what, x.piece(0, c[2] - 1, 0), 12 + c[3]);
            due("no more of " + what, of(() -> x.piece(0, c[2], 0)), INDEX);
            for (int k = 0; k < c[2] - 1; k++) {
                due("piece " + k + " of " + what, x.piece(0, k, 0), 12 + c[1]);
            }
        }
        make("card 8 40 1;flow 0;send 0 1 10;tick 2;send 0 200 10;tick 3");
        due("the most pieces leave those of another send alone: left", x.piece(0, 0, 2), 0);
        due("gone", x.piece(0, 0, 3), 1);
        due("their own: left", x.piece(1, 2, 2), 4);
        due("not yet", x.piece(1, 3, 2), -1);
        terms(14, "its PLACE is FIRST of its FLOW and LENGTH of all SENDS of that FLOW that were SEEN ahead of it,"
            + " together");
        make("card 8 40 8;flow 0 from 9999;flow 0");
        x.send(0, 200, 10, 0);
        x.send(1, 7, 10, 0);
        x.send(0, 50, 10, 0);
        x.drop(0);
        x.bell();
        due("one dropped ahead of the bell is not counted", x.told(2, 8), 9999);
        due("first 0, none ahead", x.told(1, 8), 0);
        x.drop(2);
        x.send(0, 1, 10, 0);
        due("not seen: none", x.told(3, 8), -1);
        x.bell();
        due("one dropped behind the bell is counted", x.told(3, 8), 10049);
        due("place of one dropped stays", x.told(2, 8), 9999);
    }

    static void drops() {
        terms(9, "DROP of a SEND that is POSTED, or SEEN and no PIECE of which LEFT: it is DROPPED, its PIECES are"
            + " none any more (4: it is not so)");
        make("card 4 10 2;flow 0;flow 0");
        refused("drop of none", () -> x.drop(0), 4);
        refused("drop -1", () -> x.drop(-1), 4);
        refused("drop of the greatest", () -> x.drop(Integer.MAX_VALUE), 4);
        refused("drop of the least", () -> x.drop(Integer.MIN_VALUE), 4);
        x.send(0, 15, 10, 0);
        due("drop of one posted", of(() -> x.drop(0)), 0);
        refused("drop of one dropped", () -> x.drop(0), 4);
        x.send(0, 15, 10, 0);
        x.send(0, 15, 10, 0);
        refused("drop of one not posted yet", () -> x.drop(3), 4);
        due("drop of one seen", of(() -> x.drop(2)), 2);
        due("no pieces", x.told(2, 5), 0);
        none("no piece", () -> x.piece(2, 0, 0), INDEX);
        due("the flow's pieces", x.flow(0, 3), 2);
        x.tick(1);
        refused("drop of one whose first piece left", () -> x.drop(1), 4);
        wrongBy("drop 1", 0, 4);
        x.tick(9);
        due("done", x.told(1, 4), 2);
        refused("drop of one done", () -> x.drop(1), 4);
        for (int n = 3; n < 7; n++) {
            x.send(0, 1, 10, 0);
            x.drop(n);
        }
        refused("drop of one forgotten", () -> x.drop(1), 4);
        make("card 4 10 1;flow 10;send 0 20 10;send 0 10 10;send 0 10 10");
        due("behind two", x.piece(2, 0, 1), 66);
        due("next", x.flow(0, 4), 88);
        x.drop(1);
        due("behind one", x.piece(2, 0, 1), 44);
        due("next", x.flow(0, 4), 66);
        x.drop(2);
        due("next", x.flow(0, 4), 44);
        x.drop(0);
        due("no next any more", x.flow(0, 4), 0);
        terms(10, "PAUSE, GO of a FLOW (2; 5: it is so already)");
        make("flow 0;flow 0");
        refused("go of one that goes", () -> x.pause(0, true), 5);
        x.pause(0, false);
        refused("pause of one paused", () -> x.pause(0, false), 5);
        wrongBy("pause 0", 0, 5);
        due("the other one goes", x.flow(1, 2), 0);
        x.pause(0, true);
        wrongBy("go 0", 0, 5);
        for (int flow : new int[] {2, 6, -1, Integer.MAX_VALUE, Integer.MIN_VALUE}) {
            refused("pause of flow " + flow, () -> x.pause(flow, false), 2);
            refused("go of flow " + flow, () -> x.pause(flow, true), 2);
        }
        terms(11, "RATE of a FLOW told (2)");
        make("flow 7;flow 8");
        due("as it was already", of(() -> x.rate(1, 8)), 8);
        due("it is an act all the same", x.count(18), 1);
        for (int flow : new int[] {2, 6, -1, Integer.MAX_VALUE, Integer.MIN_VALUE}) {
            refused("rate of flow " + flow, () -> x.rate(flow, 1), 2);
        }
        wrongBy("rate 2 1", 0, 2);
    }

    /** The sum of a piece's words, SUM with them if told, not brought into 16 bits. */
    static int wordsOf(int send, int piece, boolean sum) {
        int size = x.piece(send, piece, 0);
        int all = 0;
        for (int k = 0; k < size; k++) {
            if (sum || k != 10 && k != 11) {
                all += k % 2 == 0 ? x.octet(send, piece, k) << 8 : x.octet(send, piece, k);
            }
        }
        return all;
    }

    static int brought(int sum) {
        return sum <= 65535 ? sum : brought((sum >> 16) + (sum & 65535));
    }

    static int word(int send, int piece, int i) {
        return x.octet(send, piece, 2 * i) * 256 + x.octet(send, piece, 2 * i + 1);
    }

    static void heads() {
        terms(16, "a HEAD of 12 bytes, 6 words of 2 bytes, the higher one first, then its bytes");
        make("card 4 40 1;flow 0;flow 0 from 258;send 0 1 10;send 1 3 10");
        int[] bytes = {0, 15, 0, 64, 0, 0, 1, 2, 0, 19, x.piece(1, 0, 4) / 256, x.piece(1, 0, 4) % 256, 8, 22, 38};
        for (int k = 0; k < bytes.length; k++) {
            due("byte " + k, x.octet(1, 0, k), bytes[k]);
        }
        terms(15, "its 16 bits turned over");
        make("flow 0;send 0 1 10");
        due("13 and 3", x.piece(0, 0, 4), 65535 - 16);
        terms(15, "SIZE: 12 and how many bytes.");
        make("card 4 40 1;flow 0");
        x.send(0, 1, 10, 0);
        x.send(0, 100, 100, 0);
        due("the least", x.piece(0, 0, 0), 13);
        due("its word", word(0, 0, 0), 13);
        due("the most", x.piece(1, 0, 0), 112);
        due("its word", word(1, 0, 0), 112);
        due("its last byte", of(() -> x.octet(1, 0, 111)), (99 * 99 + 13 * 99 + 7) % 256);
        due("no byte more", of(() -> x.octet(1, 0, 112)), INDEX);
        terms(16, "1 what is left of 64 times n and k, together, by 65536");
        make("card 8 40 1;flow 0");
        for (int n = 0; n < 1026; n++) {
            x.send(0, n == 1023 || n == 1025 ? 200 : 1, 10, 0);
            if (n < 1023) {
                x.drop(n);
            }
        }
        due("64 times 1023 and 19", word(1023, 19, 1), 65491);
        due("64 times 1024", word(1024, 0, 1), 0);
        due("64 times 1025 and 3", word(1025, 3, 1), 67);
        terms(16, "1 more for the first PIECE, 2 more for the last one");
        make("card 4 40 1;" + SIX_FLOWS);
        x.send(0, 30, 10, 0);
        x.send(5, 20, 10, 0);
        x.send(5, 10, 10, 0);
        int[][] words = {{0, 0, 1}, {0, 1, 0}, {0, 2, 2}, {1, 0, 81}, {1, 1, 82}, {2, 0, 83}};
        for (int[] w : words) {
            due("word 4 of piece " + w[1] + " of " + w[0], word(w[0], w[1], 4), w[2]);
        }
        terms(16, "2, 3 the upper, the lower 16 bits of PLACE and k times CUT, together");
        make("card 4 40 1;flow 0 from 9999");
        for (int n = 0; n < 277; n++) {
            x.send(0, 200, 100, 0);
            x.drop(n);
        }
        x.send(0, 136, 100, 0);
        x.send(0, 1, 10, 0);
        x.send(0, 5, 10, 0);
        int[][] places = {{277, 1, 65499}, {278, 0, 65535}, {279, 0, 65536}};
        for (int[] p : places) {
            due("upper 16 bits of " + p[2], word(p[0], p[1], 2), p[2] / 65536);
            due("lower 16 bits of " + p[2], word(p[0], p[1], 3), p[2] % 65536);
        }
        make("card 4 40 1;flow 0 from 9999");
        for (int n = 0; n < 277; n++) {
            x.send(0, 200, 100, 0);
            x.drop(n);
        }
        x.send(0, 200, 10, 0);
        for (int k = 13; k <= 14; k++) {
            due("upper 16 bits of piece " + k, word(277, k, 2), k - 13);
            due("lower 16 bits of piece " + k, word(277, k, 3), (65399 + 10 * k) % 65536);
        }
    }

    static void sums() {
        terms(15, "a last one alone: the higher byte, 0 behind it");
        for (int length : new int[] {1, 2, 3, 99, 100}) {
            make("flow 0 from 77");
            x.send(0, length, 100, 0);
            due("sum of " + length + " bytes", x.piece(0, 0, 4), 65535 - brought(wordsOf(0, 0, false)));
            due("all words of " + length + " bytes", brought(wordsOf(0, 0, true)), 65535);
            due("word 5", word(0, 0, 5), x.piece(0, 0, 4));
        }
        terms(15, "what is above 16 bits being added to the lower 16 bits until nothing is");
        int twice = 0;
        for (int length = 2; length <= 100; length++) {
            make("flow 0");
            x.send(0, length, 100, 0);
            int sum = wordsOf(0, 0, false);
            for (int carry = 1; carry < 60; carry++) {
                int first = carry * 65536 + 65536 - carry - sum;
                if (first >= 0 && first <= 9999) {
                    make("flow 0 from " + first);
                    x.send(0, length, 100, 0);
                    due("brought in once", (wordsOf(0, 0, false) >> 16) + (wordsOf(0, 0, false) & 65535), 65536);
                    due("sum of 1, turned over", x.piece(0, 0, 4), 65534);
                    twice++;
                }
            }
        }
        due("there are such pieces", twice > 0, true);
    }

    static void timed() {
        terms(15, "10 times SIZE by RATE, rounded up; 0, if RATE is 0");
        int[][] gaps = {{10, 0, 0}, {10, 1, 220}, {10, 219, 2}, {10, 220, 1}, {10, 221, 1}, {10, 999, 1}, {10, 110, 2},
            {10, 109, 3}, {10, 111, 2}, {100, 999, 2}, {100, 1, 1120}, {100, 560, 2}, {100, 559, 3}, {87, 990, 1},
            {87, 989, 2}, {88, 999, 2}};
        for (int[] g : gaps) {
            make("flow " + g[1]);
            x.send(0, 200, g[0], 0);
            due("gap of " + (12 + g[0]) + " by " + g[1], x.piece(0, 1, 1), g[2]);
        }
        terms(18, "DEPART of its PIECE that LEFT latest, and GAP of the SIZE of that (0 without)");
        make("card 4 40 1;flow 10");
        due("next without", x.flow(0, 4), 0);
        x.tick(5);
        due("time alone makes no next", x.flow(0, 4), 0);
        x.send(0, 15, 10, 0);
        due("next behind both", x.flow(0, 4), 5 + 22 + 17);
        x.tick(1);
        x.pause(0, false);
        x.rate(0, 100);
        due("by the new rate", x.piece(0, 1, 1), 5 + 3);
        x.rate(0, 0);
        due("by no rate", x.piece(0, 1, 1), 5);
        x.rate(0, 10);
        x.pause(0, true);
        toTime(40);
        due("all left", x.flow(0, 3), 0);
        due("next of the latest that left", x.flow(0, 4), 27 + 17);
        x.rate(0, 100);
        due("next by the new rate", x.flow(0, 4), 27 + 2);
        terms(15, "the greatest of when its SEND was SEEN, AT, NEXT");
        make("card 8 40 8;flow 10;flow 10;flow 10");
        x.tick(5);
        x.send(0, 10, 10, 4);
        x.send(1, 10, 10, 6);
        x.send(2, 10, 10, 5);
        x.send(0, 10, 10, 26);
        x.send(1, 10, 10, 29);
        x.send(2, 10, 10, 27);
        x.bell();
        int[] departs = {5, 6, 5, 27, 29, 27};
        for (int n = 0; n < departs.length; n++) {
            due("depart of " + n, x.piece(n, 0, 1), departs[n]);
        }
        terms(15, "then of its PIECES that are SEEN and did not leave, by SENDS, then by numbers");
        make("card 8 40 8;flow 10;send 0 15 10 at 50;send 0 1 10;send 0 1 10 at 89;send 0 1 10");
        due("not seen, no next", x.flow(0, 4), 0);
        x.bell();
        int[][] pieces = {{0, 0, 50}, {0, 1, 72}, {1, 0, 89}, {2, 0, 102}, {3, 0, 115}};
        for (int[] d : pieces) {
            due("depart of piece " + d[1] + " of " + d[0], x.piece(d[0], d[1], 1), d[2]);
        }
        due("next behind all", x.flow(0, 4), 128);
        terms(15, "NEXT then: that and GAP of its SIZE.");
        make("flow 10;send 0 1 10;send 0 1 10 at 12;send 0 1 10 at 27");
        due("right behind", x.piece(1, 0, 1), 13);
        due("later than next", x.piece(2, 0, 1), 27);
        due("next then", x.flow(0, 4), 40);
        terms(15, "(DEPART of one that LEFT stays.)");
        make("card 8 40 1;flow 10;send 0 20 10;tick 23;rate 0 1;send 0 1 10 at 9999");
        due("depart", x.piece(0, 0, 1), 0);
        due("depart", x.piece(0, 1, 1), 22);
        due("depart of the next one", x.piece(1, 0, 1), 9999);
    }

    static void ticks() {
        terms(12, "whose DEPART is t or less and whose FLOW is not PAUSED");
        make("card 8 40 1;flow 0;flow 0");
        x.send(0, 1, 10, 2);
        due("at 0, 1", of(() -> x.tick(2)), 0);
        due("at 2", of(() -> x.tick(1)), 1);
        x.send(0, 1, 10, 4);
        x.send(1, 1, 10, 5);
        x.tick(1);
        x.pause(0, false);
        due("one is paused, one may not yet", of(() -> x.tick(1)), 0);
        due("the other one", of(() -> x.tick(1)), 1);
        due("its send", x.log(1, 0), 2);
        x.pause(0, true);
        due("one that is less", of(() -> x.tick(1)), 1);
        due("late", x.log(2, 6), 2);
        terms(12, "the one with the least DEPART, of several that of the least SEND, then number, LEAVES");
        make("card 8 40 8;flow 0;flow 0;flow 0");
        x.send(2, 20, 10, 3);
        x.send(1, 10, 10, 3);
        x.send(0, 10, 10, 2);
        x.bell();
        x.tick(9);
        int[][] order = {{2, 0}, {0, 0}, {0, 1}, {1, 0}};
        for (int row = 0; row < 4; row++) {
            due("send of row " + row, x.log(row, 0), order[row][0]);
            due("piece of row " + row, x.log(row, 1), order[row][1]);
        }
        terms(12, "the wire has it for SIZE by WIRE TICKS, rounded up, this one with them");
        int[][] spans = {{10, 8, 2}, {10, 9, 3}, {10, 7, 2}, {40, 28, 1}, {40, 29, 2}, {40, 1, 1}, {1, 1, 13},
            {1, 100, 112}, {13, 1, 1}, {12, 1, 2}, {40, 100, 3}};
        for (int[] s : spans) {
            make("card 4 " + s[0] + " 1;flow 0");
            x.send(0, s[1], 100, 0);
            String what = (12 + s[1]) + " bytes by wire " + s[0];
            if (s[2] > 1) {
                for (int left = s[2] - 1; left > 0; left -= 99) {
                    x.tick(Math.min(99, left));
                }
                due("not gone: " + what, x.piece(0, 0, 3), -1);
                due("the wire has " + what, x.count(17), 1);
            }
            x.tick(1);
            due("gone: " + what, x.piece(0, 0, 3), s[2]);
            due("the wire is free of " + what, x.count(17), 0);
            due("busy by " + what, x.count(13), s[2]);
        }
        terms(12, "It is t + 1 then.");
        x.tick(1);
        due("time", x.count(4), 1);
        x.tick(99);
        due("time", x.count(4), 100);
        right("tick 1;tick 99", 2);
        due("time", x.count(4), 200);
        terms(12, "if the wire is free");
        make("card 4 10 1;flow 0");
        x.send(0, 16, 8 + 2, 0);
        due("22 bytes have it for 3 ticks", of(() -> x.tick(3)), 1);
        due("then it is free at once", of(() -> x.tick(1)), 1);
        due("left", x.piece(0, 1, 2), 3);
        terms(12, "As the last of these TICKS is over, the PIECE is GONE, at that time; if all PIECES of its SEND"
            + " are, that is DONE, at that time.");
        due("nothing is done", x.done(0, false), -1);
        make("card 4 10 1;flow 0;send 0 16 10;tick 3");
        due("first is gone", x.piece(0, 0, 3), 3);
        due("not done", x.told(0, 4), 1);
        x.tick(1);
        due("left, not gone", x.piece(0, 1, 3), -1);
        due("not done", x.told(0, 4), 1);
        x.tick(1);
        due("gone", x.piece(0, 1, 3), 5);
        due("done", x.told(0, 4), 2);
        due("done at", x.told(0, 7), 5);
    }

    static void reclaims() {
        terms(39, "RECLAIMED, whenever it may be: the least SEND that is not yet, if it is DONE or DROPPED, then the"
            + " next one, and on.");
        make("card 8 40 1;flow 0;flow 0;pause 0");
        due("none", x.count(6), 0);
        x.send(0, 1, 10, 0);
        x.send(1, 1, 10, 0);
        x.send(0, 1, 10, 0);
        x.send(1, 1, 10, 0);
        x.drop(2);
        x.tick(2);
        due("the least one is not over", x.count(6), 0);
        x.pause(0, true);
        x.tick(1);
        due("done at once, and on", x.count(6), 4);
        x.send(0, 1, 10, 0);
        due("not yet", x.count(6), 4);
        x.drop(4);
        due("dropped at once", x.count(6), 5);
        terms(12, "At time 9999 no TICK can be (6).");
        make("card 4 10 1;flow 0;flow 0");
        toTime(9996);
        x.send(0, 8, 10, 9997);
        x.send(1, 8, 10, 9999);
        due("as far as can be", of(() -> x.tick(99)), 1);
        due("time", x.count(4), 9999);
        due("gone as the last tick is over", x.piece(0, 0, 3), 9999);
        due("done", x.told(0, 7), 9999);
        due("of 9999 does not leave", x.piece(1, 0, 2), -1);
        refused("tick 1", () -> x.tick(1), 6);
        refused("tick 99", () -> x.tick(99), 6);
        wrongBy("tick 1", 0, 6);
        due("other acts can be", of(() -> x.send(0, 1, 10, 0)), 2);
        due("seen at", x.told(2, 6), 9999);
        due("drop", of(() -> x.drop(2)), 1);
        due("bell", x.bell(), 0);
        due("pause", of(() -> x.pause(0, false)), 0);
        due("rate", of(() -> x.rate(0, 9)), 0);
        x.undo();
        right("bell;card 1 1 1;tick 1", 3);
        make("card 4 10 1;flow 0");
        toTime(9996);
        x.send(0, 8, 10, 9998);
        due("left", of(() -> x.tick(3)), 1);
        due("it is never gone", x.piece(0, 0, 3), -1);
        due("the wire has it", x.count(17), 1);
        due("not done", x.told(0, 4), 1);
        make("bell");
        toTime(9950);
        right("tick 99", 1);
        due("a text's ticks as far as they can be", x.count(4), 9999);
        make("bell");
        toTime(9950);
        wrongBy("tick 49;tick 1", 8, 6);
        right("tick 48;tick 1", 2);
    }

    static void takenBack() {
        terms(13, "the latest ACT that was done by a call and not refused, not taken back yet (TICKS of one call are"
            + " one; 8 are remembered): all is as ahead of it");
        make("card 8 10 2;flow 50 from 3;flow 0");
        LongSupplier[] acts = {() -> x.send(0, 30, 10, 0), () -> x.send(1, 20, 10, 0), () -> x.tick(4),
            () -> x.pause(0, false), () -> x.rate(0, 9), () -> x.send(1, 9, 10, 0), () -> x.bell(), () -> x.drop(2),
            () -> x.pause(0, true), () -> x.tick(50)};
        String[] ahead = new String[acts.length];
        for (int i = 0; i < acts.length; i++) {
            due("remembered ahead of act " + i, x.count(18), Math.min(i, 8));
            ahead[i] = allButRemembered();
            due("act " + i + " is done", of(acts[i]) >= 0, true);
            refused("refused", () -> x.send(7, 1, 10, 0), 2);
        }
        due("8 are remembered", x.count(18), 8);
        for (int i = acts.length - 1; i >= acts.length - 8; i--) {
            due("undo of act " + i, of(() -> x.undo()), i - 2);
            alike("behind undo of act " + i, allButRemembered(), ahead[i]);
        }
        none("the eldest are forgotten", () -> x.undo(), STATE);
        due("an act again", of(() -> x.tick(1)), 1);
        due("remembered", x.count(18), 1);
        due("undo", of(() -> x.undo()), 0);
        alike("behind undo", allButRemembered(), ahead[2]);
        busy();
        for (LongSupplier act : new LongSupplier[] {() -> x.tick(1), () -> x.send(1, 7, 10, 200), () -> x.rate(0, 5),
            () -> x.pause(2, true), () -> x.tick(9), () -> x.send(5, 50, 10, 0), () -> x.send(2, 50, 10, 0),
            () -> x.drop(36), () -> x.pause(1, false), () -> x.tick(50), () -> x.send(0, 7, 10, 0), () -> x.bell(),
            () -> x.tick(99)}) {
            String now = allButRemembered();
            due("act", of(act) >= 0, true);
            String then = allButRemembered();
            due("undo", of(() -> x.undo()) > 0, true);
            alike("as ahead of it", allButRemembered(), now);
            due("act again", of(act) >= 0, true);
            alike("as behind it", allButRemembered(), then);
        }
        terms(13, "A text that is right, going back: none are remembered.");
        x.bell();
        right("bell", 1);
        none("undo behind a right text", () -> x.undo(), STATE);
        x.bell();
        right("", 0);
        none("undo behind one without acts", () -> x.undo(), STATE);
        x.bell();
        wrongAt("bell;x", 5);
        wrongBy("bell;drop 0", 5, 4);
        due("wrong ones leave what is remembered", of(() -> x.undo()), 0);
        x.bell();
        due("no image: no going back", x.back(), false);
        due("remembered yet", x.count(18), 1);
        x.image();
        due("an image leaves what is remembered", x.count(18), 1);
        x.bell();
        due("back", x.back(), true);
        none("undo behind going back", () -> x.undo(), STATE);
    }

    static String allButRemembered() {
        return all().replaceAll("count18=\\d", "");
    }

    static void whys() {
        terms(6, "WHY (0 at first)");
        due("why", x.why(), 0);
        terms(6, "of the latest ACT by a call, or of a text that was wrong by it, the number by which it was refused;"
            + " 0, if it was done");
        make("card 1 10 1;" + SIX_FLOWS);
        wrongBy("flow 0", 0, 1);
        due("rate", of(() -> x.rate(0, 0)), 0);
        due("done", x.why(), 0);
        refused("send", () -> x.send(6, 1, 10, 0), 2);
        due("send", of(() -> x.send(0, 1, 10, 0)), 0);
        due("done", x.why(), 0);
        refused("send", () -> x.send(0, 1, 10, 0), 3);
        due("pause", of(() -> x.pause(0, false)), 1);
        due("done", x.why(), 0);
        refused("drop", () -> x.drop(1), 4);
        due("drop", of(() -> x.drop(0)), 1);
        due("done", x.why(), 0);
        refused("pause", () -> x.pause(0, false), 5);
        due("bell", x.bell(), 0);
        due("done", x.why(), 0);
        toTime(9999);
        refused("tick", () -> x.tick(1), 6);
        terms(6, "by a text of ACTS that was right (one that has no ACT, and one that is wrong otherwise, leave WHY)");
        refused("drop", () -> x.drop(0), 4);
        right("", 0);
        due("no act", x.why(), 4);
        right("    ", 0);
        due("no act", x.why(), 4);
        wrongAt("x", 0);
        wrongAt("bell;tick 0", 10);
        due("wrong otherwise", x.why(), 4);
        right("bell", 1);
        due("right", x.why(), 0);
        wrongBy("go 0", 0, 2);
        wrongAt("bell;x;drop 0", 5);
        due("undo of none", of(() -> x.undo()), STATE);
        due("no act", x.why(), 2);
        wrongBy("drop 0;drop 0", 0, 4);
    }

    public static void main(String[] args) {
        card();
        flows();
        sends();
        texts();
        signs();
        firstWrong();
        refusals();
        bells();
        cuts();
        drops();
        heads();
        sums();
        timed();
        ticks();
        reclaims();
        takenBack();
        whys();
        finish("terms", 1, 0);
    }
}
