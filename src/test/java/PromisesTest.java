import java.nio.charset.StandardCharsets;

/** Each promise by examples that were reckoned by hand: ordinary ones, edges, wrong inputs. */
public final class PromisesTest {
    private static final int NO_GAIN = -100000;
    private static final int BIG = Integer.MAX_VALUE;
    private static final int SMALL = Integer.MIN_VALUE;

    // Clock: at 2 A clinches one, at 4 B, at 5 (the end) A and C.
    private static final String RISING = "supply 4;reserve 1;bidder 9 6 4;bidder 8 5;bidder 7 2;";
    // Both clinch one at 0; the end is 5, where A gets the unit that is left.
    private static final String TIED = "supply 3;bidder 5 5;bidder 5 5;";
    // The end is 3, at once; A's cap and B's low value leave four units.
    private static final String SPARE = "supply 6;reserve 3;bidder 9 4 3 cap 2;bidder 2;bidder;";

    private static int wrong = 0;

    private static void due(int promise, String what, long got, long want) {
        if (got != want) {
            wrong++;
            System.out.println("promise " + promise + ": " + what + " answered " + got + ", due is " + want);
        }
    }

    private static void due(int promise, String what, boolean got, boolean want) {
        due(promise, what, got ? 1 : 0, want ? 1 : 0);
    }

    private static void due(int promise, String what, String got, String want) {
        if (!got.equals(want)) {
            wrong++;
            System.out.println("promise " + promise + ": " + what + " is '" + got + "', due is '" + want + "'");
        }
    }

    private static ClinchClock clock(String text) {
        ClinchClock x = new ClinchClock();
        if (tell(x, text) < 0) {
            throw new IllegalStateException(text);
        }
        return x;
    }

    private static int tell(ClinchClock x, String text) {
        feed(x, text);
        return x.text();
    }

    private static void feed(ClinchClock x, String text) {
        byte[] bytes = text.getBytes(StandardCharsets.ISO_8859_1);
        int rows = (bytes.length + 19) / 20;
        int[] n = new int[rows * 5];
        for (int i = 0; i < rows * 20; i++) {
            int b = i < bytes.length ? bytes[i] & 255 : 0;
            n[i / 4] = n[i / 4] << 8 | b;
        }
        for (int r = 0; r < n.length; r += 5) {
            x.feed(n[r], n[r + 1], n[r + 2], n[r + 3], n[r + 4]);
        }
        x.back(rows * 20 - bytes.length);
    }

    private static String spelt(ClinchClock x) {
        StringBuilder b = new StringBuilder();
        int bytes = x.spell(-1);
        for (int i = 0; i < bytes; i++) {
            b.append((char) x.spell(i));
        }
        return b.toString();
    }

    private static String reported(ClinchClock x, int kind) {
        StringBuilder b = new StringBuilder();
        int bytes = x.report(kind, -1);
        for (int i = 0; i < bytes; i++) {
            b.append((char) x.report(kind, i));
        }
        return b.toString();
    }

    private static void fault(String text, int fault) {
        ClinchClock x = clock(RISING);
        x.hold(0);
        String before = spelt(x);
        due(4, "FAULT of '" + text + "'", tell(x, text), -4 - fault);
        due(4, "tape behind a FAULT", x.count(5), 0);
        due(4, "acts behind a FAULT", x.count(4), 1);
        due(4, "record behind a FAULT", x.count(7), 1);
        due(4, "text behind a FAULT", spelt(x), before);
    }

    private static void stands(String text, String spelt) {
        due(4, "text '" + text + "'", spelt(clock(text)), spelt);
    }

    public static void main(String[] args) {
        told();
        texts();
        biddersAct();
        valuesAct();
        placesAct();
        holdAndUndo();
        ofBidders();
        payments();
        results();
        orders();
        rows();
        envyAndBlocks();
        otherSupplyAndReserve();
        otherBidders();
        tellingLess();
        twoForOne();
        leastOnes();
        spelling();
        counts();
        System.out.println(wrong == 0 ? "all promises hold" : wrong + " answers are not as due");
        if (wrong != 0) {
            System.exit(1);
        }
    }

    private static void told() {
        ClinchClock x = new ClinchClock();
        due(1, "new", spelt(x), "supply 10;reserve 0;");
        for (int i = 1; i <= 25; i++) {
            due(2, "feed", x.feed(i, i, i, i, i), 20 * i);
        }
        due(2, "feed beyond 500", x.feed(1, 2, 3, 4, 5), -1);
        due(2, "tape", x.count(5), 500);
        due(3, "back 1", x.back(1), 499);
        due(2, "feed, 519", x.feed(1, 2, 3, 4, 5), -1);
        due(3, "back below 0", x.back(-1), -1);
        due(3, "back least", x.back(SMALL), -1);
        due(3, "back too many", x.back(500), -1);
        due(3, "back most", x.back(BIG), -1);
        due(3, "back 0", x.back(0), 499);
        due(3, "back all", x.back(499), 0);
        // "supply 25;reserve 9;": the highest byte of a comes first.
        due(2, "feed", x.feed(0x73757070, 0x6c792032, 0x353b7265, 0x73657276, 0x6520393b), 20);
        due(4, "text", x.text(), 0);
        due(2, "fed", spelt(x), "supply 25;reserve 9;");
    }

    private static void texts() {
        stands("", "supply 10;reserve 0;");
        stands("  \n", "supply 10;reserve 0;");
        stands("reserve 07;supply 30;supply 1;reserve 00;", "supply 1;reserve 0;");
        stands("\nbidder\n99 99 0\ncap\n08\n;\n", "supply 10;reserve 0;bidder 99 99 0;");
        stands("bidder;bidder cap 0;bidder 1 1 1 1 1 1 1 1 cap 3;",
            "supply 10;reserve 0;bidder;bidder cap 0;bidder 1 1 1 1 1 1 1 1 cap 3;");
        fault("x", 0);
        fault("sup", 0);
        fault(" supplys 1;", 1);
        fault("supplyz 1;", 0);
        fault("supplya 1;", 0);
        fault("Supply 1;", 0);
        fault("cap 1;", 0);
        fault(";", 0);
        fault("7;", 0);
        fault("supply 1;;", 9);
        fault("supply", 6);
        fault("supply   ", 9);
        fault("supply 3", 8);
        fault("supply 3 \n", 10);
        fault("supply ;", 7);
        fault("supply3;", 6);
        fault("supply 0;", 7);
        fault("supply 31;", 7);
        fault("supply 001;", 7);
        fault("supply 3 4;", 9);
        fault("supply 3x;", 8);
        fault("supply 3\t;", 8);
        fault("supply -3;", 7);
        fault("supply\r3;", 6);
        fault("supply bidder;", 7);
        fault("reserve 100;", 8);
        fault("reserve 9", 9);
        fault("reserve cap 9;", 8);
        fault("bidder 5 6;", 9);
        fault("bidder 8 7 6 5 4 3 2 1 0;", 23);
        fault("bidder 8 7 6 5 4 3 2 1 100;", 23);
        fault("bidder 100;", 7);
        fault("bidder 5cap 1;", 8);
        fault("bidder 5 cap1;", 12);
        fault("bidder 5 cap;", 12);
        fault("bidder 5 cap 9;", 13);
        fault("bidder 5 cap 1 2;", 15);
        fault("bidder 5 cap 1 cap 2;", 15);
        fault("bidder 5 cap", 12);
        fault("bidder 5 supply 3;", 9);
        fault("bidder 5;" + (char) 233, 9);
        fault("bidder;".repeat(8) + " bidder;", 57);
        ClinchClock x = clock(RISING);
        x.hold(0);
        x.supply(9);
        due(4, "end", x.result(0), 1);
        due(4, "text, anew", tell(x, "bidder 3;"), 1);
        due(4, "end, anew", x.result(0), 0);
        due(4, "anew", spelt(x), "supply 10;reserve 0;bidder 3;");
        due(4, "acts are forgotten", x.undo(), -1);
        due(4, "record is gone", x.record(0, 0), -1);
    }

    private static void biddersAct() {
        ClinchClock x = new ClinchClock();
        for (int b = 0; b < 8; b++) {
            due(5, "join", x.join(), b);
        }
        due(5, "join, eight", x.join(), -1);
        due(5, "cap of who joined", x.of(7, 1), 8);
        due(5, "values of who joined", x.of(7, 0), 0);
        due(5, "acts", x.count(4), 8);
        x = clock(RISING);
        due(6, "leave", x.leave(1), true);
        due(6, "left", spelt(x), "supply 4;reserve 1;bidder 9 6 4;bidder 7 2;");
        due(6, "leave, none", x.leave(2), false);
        due(6, "leave, below 0", x.leave(-1), false);
        due(6, "leave, most", x.leave(BIG), false);
        due(6, "acts", x.count(4), 1);
        x.cap(1, 3);
        due(13, "copy", x.copy(1), 2);
        due(13, "copied", spelt(x), "supply 4;reserve 1;bidder 9 6 4;bidder 7 2 cap 3;bidder 7 2 cap 3;");
        due(13, "copy, none", x.copy(3), -1);
        due(13, "copy, below 0", x.copy(-1), -1);
        x.value(2, 5);
        due(13, "the first one stays", x.of(1, 0), 2);
        for (int b = 3; b < 8; b++) {
            x.copy(0);
        }
        due(13, "copy, eight", x.copy(0), -1);
    }

    private static void valuesAct() {
        ClinchClock x = clock("bidder 9 5;");
        due(7, "value", x.value(0, 7), 3);
        due(7, "value, first", x.value(0, 99), 4);
        due(7, "value, last", x.value(0, 0), 5);
        due(7, "value, alike", x.value(0, 7), 6);
        due(7, "valued", spelt(x), "supply 10;reserve 0;bidder 99 9 7 7 5 0;");
        due(7, "value, 100", x.value(0, 100), -1);
        due(7, "value, -1", x.value(0, -1), -1);
        due(7, "value, no bidder", x.value(1, 5), -1);
        due(7, "value, bidder -1", x.value(-1, 5), -1);
        x.value(0, 1);
        due(7, "value, eighth", x.value(0, 1), 8);
        due(7, "value, ninth", x.value(0, 1), -1);
        due(8, "without", x.without(0, 0), 7);
        due(8, "without, last", x.without(0, 6), 6);
        due(8, "without", spelt(x), "supply 10;reserve 0;bidder 9 7 7 5 1 1;");
        due(8, "without, none", x.without(0, 6), -1);
        due(8, "without, -1", x.without(0, -1), -1);
        due(8, "without, no bidder", x.without(1, 0), -1);
        due(9, "cap", x.cap(0, 0), 8);
        due(9, "cap", x.cap(0, 8), 0);
        due(9, "cap, so", x.cap(0, 8), -1);
        due(9, "cap, 9", x.cap(0, 9), -1);
        due(9, "cap, -1", x.cap(0, -1), -1);
        due(9, "cap, no bidder", x.cap(1, 1), -1);
        due(10, "change", x.change(0, 0, 6), 9);
        due(10, "changed", spelt(x), "supply 10;reserve 0;bidder 7 7 6 5 1 1;");
        due(10, "change", x.change(0, 5, 99), 1);
        due(10, "changed", spelt(x), "supply 10;reserve 0;bidder 99 7 7 6 5 1;");
        due(10, "change, so", x.change(0, 1, 7), -1);
        due(10, "change, 100", x.change(0, 1, 100), -1);
        due(10, "change, -1", x.change(0, 1, -1), -1);
        due(10, "change, none", x.change(0, 6, 1), -1);
        due(10, "change, i -1", x.change(0, -1, 1), -1);
        due(10, "change, no bidder", x.change(1, 0, 1), -1);
        x.value(0, 0);
        x.value(0, 0);
        due(10, "change of eight", x.change(0, 7, 50), 0);
        due(10, "changed", spelt(x), "supply 10;reserve 0;bidder 99 50 7 7 6 5 1 0;");
        due(14, "clear", x.clear(0), 8);
        due(14, "clear, none", x.clear(0), -1);
        due(14, "clear, no bidder", x.clear(1), -1);
        due(14, "clear, -1", x.clear(-1), -1);
        due(14, "cap stays", x.of(0, 1), 8);
        x = clock("bidder 98 50 3;");
        due(16, "shade up", x.shade(0, 2), 3);
        due(16, "shaded", spelt(x), "supply 10;reserve 0;bidder 99 52 5;");
        due(16, "shade, one stays", x.shade(0, 1), 2);
        due(16, "shade down", x.shade(0, -10), 3);
        due(16, "shaded", spelt(x), "supply 10;reserve 0;bidder 89 43 0;");
        due(16, "shade 0", x.shade(0, 0), -1);
        due(16, "shade 100", x.shade(0, 100), -1);
        due(16, "shade -100", x.shade(0, -100), -1);
        due(16, "shade least", x.shade(0, SMALL), -1);
        due(16, "shade, no bidder", x.shade(1, 1), -1);
        due(16, "shade 99", x.shade(0, 99), 3);
        due(16, "shade, none would", x.shade(0, 99), -1);
        due(16, "shade -99", x.shade(0, -99), 3);
        x.clear(0);
        due(16, "shade, no values", x.shade(0, 5), -1);
    }

    private static void placesAct() {
        ClinchClock x = clock("bidder 9 6 4 2 cap 3;bidder 8;");
        due(11, "split", x.split(0, 1), 2);
        due(11, "split", x.split(0, 2), 3);
        due(11, "split", spelt(x), "supply 10;reserve 0;bidder 9 cap 3;bidder 8;bidder 2 cap 3;bidder 6 4 cap 3;");
        due(11, "split, all", x.split(3, 2), -1);
        due(11, "split, 0", x.split(3, 0), -1);
        due(11, "split, -1", x.split(3, -1), -1);
        due(11, "split, more", x.split(3, BIG), -1);
        due(11, "split, no bidder", x.split(4, 1), -1);
        x.join();
        x.join();
        x.join();
        x.join();
        due(11, "split, eight", x.split(3, 1), -1);
        x = clock("bidder 4 cap 1;bidder 3 3;bidder 2;bidder 1;");
        due(12, "move", x.move(0, 2), true);
        due(12, "moved", spelt(x), "supply 10;reserve 0;bidder 3 3;bidder 2;bidder 4 cap 1;bidder 1;");
        due(12, "move", x.move(3, 0), true);
        due(12, "moved", spelt(x), "supply 10;reserve 0;bidder 1;bidder 3 3;bidder 2;bidder 4 cap 1;");
        due(12, "move, that", x.move(1, 1), false);
        due(12, "move, no place", x.move(1, 4), false);
        due(12, "move, place -1", x.move(1, -1), false);
        due(12, "move, no bidder", x.move(4, 1), false);
        due(17, "swap", x.swap(1, 3), true);
        due(17, "swapped", spelt(x), "supply 10;reserve 0;bidder 1;bidder 4 cap 1;bidder 2;bidder 3 3;");
        due(17, "swap, one", x.swap(1, 1), false);
        due(17, "swap, none", x.swap(1, 4), false);
        due(17, "swap, -1", x.swap(-1, 1), false);
        due(17, "acts", x.count(4), 3);
        due(18, "supply", x.supply(30), 10);
        due(18, "supply", x.supply(1), 30);
        due(18, "supply, so", x.supply(1), -1);
        due(18, "supply, 0", x.supply(0), -1);
        due(18, "supply, 31", x.supply(31), -1);
        due(19, "reserve", x.reserve(99), 0);
        due(19, "reserve", x.reserve(0), 99);
        due(19, "reserve, so", x.reserve(0), -1);
        due(19, "reserve, 100", x.reserve(100), -1);
        due(19, "reserve, -1", x.reserve(-1), -1);
        due(19, "acts", x.count(4), 7);
    }

    private static void holdAndUndo() {
        ClinchClock x = clock(RISING);
        due(15, "hold, kind 4", x.hold(4), -1);
        due(15, "hold, kind -1", x.hold(-1), -1);
        due(15, "hold", x.hold(0), 4);
        due(15, "held", spelt(x), "supply 4;reserve 1;bidder 4 cap 6;bidder 5 cap 7;bidder 2 cap 7;");
        due(41, "end", x.record(0, 0), 5);
        due(41, "sold", x.record(0, 1), 4);
        due(41, "paid", x.record(0, 2), 16);
        due(41, "kind", x.record(0, 3), 0);
        due(15, "hold again", x.hold(2), 3);
        due(41, "end", x.record(0, 0), 1);
        due(41, "paid", x.record(0, 2), 11);
        due(41, "kind", x.record(0, 3), 2);
        due(41, "line 1", x.record(1, 2), 16);
        due(41, "no line", x.record(2, 0), -1);
        due(41, "line -1", x.record(-1, 0), -1);
        due(41, "what 4", x.record(0, 4), -1);
        due(41, "what -1", x.record(0, -1), -1);
        for (int i = 0; i < 7; i++) {
            due(15, "hold of nothing", x.hold(1), 0);
        }
        due(41, "eight lines", x.count(7), 8);
        due(41, "the oldest of eight", x.record(7, 2), 11);
        due(41, "ninth line", x.record(8, 0), -1);
        for (int i = 8; i >= 2; i--) {
            due(20, "undo", x.undo(), i);
        }
        due(20, "record as it was", x.record(1, 2), 16);
        due(20, "record as it was", x.count(7), 2);
        due(20, "undo", x.undo(), 1);
        due(20, "undo", x.undo(), 0);
        due(20, "as it was", spelt(x), RISING);
        due(20, "record", x.count(7), 0);
        due(20, "undo, none", x.undo(), -1);
        due(15, "hold anew", x.result(0), 5);
        for (int i = 1; i <= 14; i++) {
            x.supply(i + 4);
        }
        due(20, "acts kept", x.count(4), 12);
        for (int i = 11; i >= 0; i--) {
            due(20, "undo", x.undo(), i);
        }
        due(20, "undo, none", x.undo(), -1);
        due(20, "the latest 12", x.count(1), 6);
        everyActIsUndone();
    }

    private static void everyActIsUndone() {
        ClinchClock x = clock(RISING);
        x.join();
        due(20, "undo join", x.undo(), 0);
        x.leave(0);
        due(20, "undo leave", x.undo(), 0);
        x.value(0, 3);
        due(20, "undo value", x.undo(), 0);
        x.without(0, 1);
        due(20, "undo without", x.undo(), 0);
        x.cap(0, 3);
        due(20, "undo cap", x.undo(), 0);
        x.change(0, 1, 3);
        due(20, "undo change", x.undo(), 0);
        x.split(0, 1);
        due(20, "undo split", x.undo(), 0);
        x.move(0, 2);
        due(20, "undo move", x.undo(), 0);
        x.copy(0);
        due(20, "undo copy", x.undo(), 0);
        x.clear(0);
        due(20, "undo clear", x.undo(), 0);
        x.shade(0, 9);
        due(20, "undo shade", x.undo(), 0);
        x.swap(0, 2);
        due(20, "undo swap", x.undo(), 0);
        x.reserve(9);
        due(20, "undo reserve", x.undo(), 0);
        feed(x, "bidder");
        x.supply(9);
        due(20, "undo supply", x.undo(), 0);
        due(20, "the tape stays", x.count(5), 6);
        due(20, "all undone", spelt(x), RISING);
        x.supply(1);
        due(20, "end of one", x.result(0), 8);
        x.undo();
        due(20, "end as it was", x.result(0), 5);
    }

    private static void ofBidders() {
        ClinchClock x = clock(RISING);
        int[] ofA = {3, 8, 2, 15, 0, 2, -1};
        int[] ofC = {2, 8, 1, 7, 0, 5, -1};
        for (int what = 0; what < 7; what++) {
            due(21, "of A " + what, x.of(0, what), ofA[what]);
            due(21, "of C " + what, x.of(2, what), ofC[what]);
        }
        due(21, "of, what -1", x.of(0, -1), -1);
        due(21, "of, none", x.of(3, 0), -1);
        due(21, "of, -1", x.of(-1, 0), -1);
        due(22, "valueOf", x.valueOf(0, 2), 4);
        due(22, "valueOf, none", x.valueOf(0, 3), -1);
        due(22, "valueOf, -1", x.valueOf(0, -1), -1);
        due(22, "valueOf, no bidder", x.valueOf(3, 0), -1);
        due(23, "unit", x.unit(0, 0), 2);
        due(23, "unit", x.unit(0, 1), 5);
        due(23, "unit, not so many", x.unit(0, 2), -2);
        due(23, "unit, most", x.unit(0, BIG), -2);
        due(23, "unit, -1", x.unit(0, -1), -1);
        due(23, "unit, no bidder", x.unit(3, 0), -1);
        x = clock(TIED);
        due(21, "A's units", x.of(0, 2), 2);
        due(21, "A's, behind the clock", x.of(0, 4), 1);
        due(21, "A's first", x.of(0, 5), 0);
        due(21, "B's units", x.of(1, 2), 1);
        due(23, "A's second", x.unit(0, 1), 5);
        x = clock("supply 1;bidder 5;bidder 5;");
        due(21, "none by the clock", x.of(0, 5), -2);
        due(21, "no unit", x.of(1, 5), -2);
        x = clock("supply 5;bidder 5 5;bidder 5 5;bidder 5 5;bidder 6;");
        // At 4 seven are wanted: nobody else leaves one; at 5 D clinches, then A, B, C, A.
        due(21, "round by round", x.of(0, 2) * 1000 + x.of(1, 2) * 100 + x.of(2, 2) * 10 + x.of(3, 2), 2111);
        x = clock("supply 9;bidder 0 0 0 cap 2;bidder 0;");
        due(21, "takes at 0", x.of(0, 2) * 10 + x.of(1, 2), 21);
        due(27, "unsold", x.result(2), 6);
    }

    private static void payments() {
        ClinchClock x = clock(RISING);
        int[][] pays = {{7, 4, 5}, {10, 5, 5}, {15, 8, 7}, {7, 4, 5}};
        int[] worth = {15, 8, 7};
        int[] paid = {16, 20, 30, 16};
        int[] perUnitOfA = {3, 5, 7, 3};
        for (int kind = 0; kind < 4; kind++) {
            for (int b = 0; b < 3; b++) {
                due(24, "pays " + b + " " + kind, x.pays(b, kind), pays[kind][b]);
                due(25, "gain " + b + " " + kind, x.gain(b, kind), worth[b] - pays[kind][b]);
            }
            due(28, "paid " + kind, x.paid(kind), paid[kind]);
            due(33, "dearest " + kind, x.dearest(kind), 0);
            due(34, "perUnit " + kind, x.perUnit(0, kind), perUnitOfA[kind]);
        }
        for (int kind = -1; kind <= 4; kind += 5) {
            due(24, "pays, no kind", x.pays(0, kind), -1);
            due(25, "gain, no kind", x.gain(0, kind), NO_GAIN);
            due(28, "paid, no kind", x.paid(kind), -1);
            due(33, "dearest, no kind", x.dearest(kind), -1);
            due(34, "perUnit, no kind", x.perUnit(0, kind), -1);
        }
        due(24, "pays, none", x.pays(3, 0), -1);
        due(24, "pays, -1", x.pays(-1, 0), -1);
        due(25, "gain, none", x.gain(3, 0), NO_GAIN);
        due(34, "perUnit, none", x.perUnit(3, 0), -1);
        x = clock(SPARE);
        due(24, "harm, with a reserve", x.pays(0, 3), 6);
        due(24, "harm of who has nothing", x.pays(1, 3), 0);
        due(28, "paid by harm", x.paid(3), 6);
        due(34, "perUnit, has none", x.perUnit(1, 0), -2);
        due(33, "dearest, none", new ClinchClock().dearest(0), -2);
        due(33, "dearest, none, no kind", new ClinchClock().dearest(4), -1);
        due(33, "dearest of alike", clock("supply 9;bidder 1;bidder 7;bidder 7;").dearest(2), 1);
        due(33, "dearest, all 0", clock("bidder;bidder;").dearest(0), 0);
        // One end may cost more than clinching: the first two were clinched at 0.
        x = clock("supply 3;bidder 9 9 9;bidder 4;");
        due(24, "clinched", x.pays(0, 0), 4);
        due(24, "one price", x.pays(0, 1), 12);
    }

    private static void results() {
        int[] rising = {5, 4, 0, 4, 3, 30, 30, 3, 5, 2, -1};
        int[] tied = {5, 3, 0, 2, 2, 15, 15, 1, 5, 0, -1};
        int[] spare = {3, 2, 4, 2, 1, 13, 25, 1, 3, 3, -1};
        ClinchClock a = clock(RISING);
        ClinchClock b = clock(TIED);
        ClinchClock c = clock(SPARE);
        for (int what = 0; what < rising.length; what++) {
            due(27, "rising " + what, a.result(what), rising[what]);
            due(27, "tied " + what, b.result(what), tied[what]);
            due(27, "spare " + what, c.result(what), spare[what]);
        }
        due(27, "what -1", a.result(-1), -1);
        ClinchClock none = clock("reserve 7;bidder 6;");
        due(27, "end of nothing", none.result(0), 7);
        due(27, "worth of the reserve", none.result(6), 70);
        due(27, "greatest of none", none.result(8), -2);
        due(27, "least of none", none.result(9), -2);
        due(27, "the end is 99", clock("supply 1;bidder 99 99;").result(0), 99);
    }

    private static void orders() {
        ClinchClock x = clock(RISING);
        int[] whose = {0, 1, 0, 2};
        int[] price = {2, 4, 5, 5};
        for (int k = 0; k < 4; k++) {
            due(30, "whose " + k, x.sold(k, 0), whose[k]);
            due(30, "price " + k, x.sold(k, 1), price[k]);
        }
        due(30, "sold, no k", x.sold(4, 0), -1);
        due(30, "sold, -1", x.sold(-1, 0), -1);
        due(30, "sold, what 2", x.sold(0, 2), -1);
        due(30, "sold, what -1", x.sold(0, -1), -1);
        x = clock("supply 4;bidder 3;bidder 9 9;bidder 5 5 5;");
        // At 0 C clinches one; at 3 B one and C one; at 5 B one.
        due(30, "of one price by numbers", x.sold(0, 0) * 100 + x.sold(1, 0) * 10 + x.sold(2, 0), 212);
        due(30, "all of one bidder", clock("supply 4;bidder 9 9;bidder 9 9;").sold(1, 0), 0);
        due(30, "round by round behind these", clock(TIED).sold(2, 0) * 10 + clock(TIED).sold(2, 1), 5);
        x = clock("supply 5;bidder 3;bidder 9 9 9;bidder 5 5 5;");
        // At 0: B one, C one; at 3: B one, C one; at 5 B its third.
        due(32, "B's first price", x.clinch(1, 0, 0), 0);
        due(32, "B's units there", x.clinch(1, 0, 1), 1);
        due(32, "B's second price", x.clinch(1, 1, 0), 3);
        due(32, "B's third price", x.clinch(1, 2, 0), 5);
        due(32, "no fourth", x.clinch(1, 3, 0), -1);
        due(32, "k -1", x.clinch(1, -1, 0), -1);
        due(32, "k most", x.clinch(1, BIG, 0), -1);
        due(32, "what 2", x.clinch(1, 0, 2), -1);
        due(32, "what -1", x.clinch(1, 0, -1), -1);
        due(32, "no bidder", x.clinch(3, 0, 0), -1);
        due(32, "who clinched nothing", x.clinch(0, 0, 0), -1);
        due(32, "several at once", clock("supply 3;reserve 2;bidder 9 9;").clinch(0, 0, 1), 2);
        due(32, "round by round is not clinched", clock("supply 1;bidder 5;bidder 5;").clinch(0, 0, 0), -1);
        clockShows();
    }

    private static void clockShows() {
        ClinchClock x = clock(RISING);
        int[][] ofA = {{3, 3, 3, 2, 2, 0}, {3, 3, 3, 3, 2, 0}, {0, 1, 1, 1, 2, 4}, {0, 1, 1, 1, 2, 2}};
        int[] prices = {1, 2, 3, 4, 5, 99};
        for (int what = 0; what < 4; what++) {
            for (int i = 0; i < prices.length; i++) {
                due(26, "at " + prices[i] + " " + what, x.at(0, prices[i], what), ofA[what][i]);
            }
        }
        due(26, "what 4", x.at(0, 1, 4), -1);
        due(26, "what -1", x.at(0, 1, -1), -1);
        due(26, "price 100", x.at(0, 100, 0), -1);
        due(26, "price -1", x.at(0, -1, 0), -1);
        due(26, "no bidder", x.at(3, 1, 0), -1);
        x = clock(SPARE);
        due(26, "below the reserve", x.at(0, 2, 3), 0);
        due(26, "at the reserve", x.at(0, 3, 3), 2);
        due(26, "wants, by its cap", x.at(0, 0, 0), 2);
        due(26, "takes, by its cap", x.at(0, 0, 1), 2);
        due(26, "free below the reserve", x.at(1, 1, 2), 4);
        due(26, "round by round does not count", clock(TIED).at(0, 5, 3), 1);
        due(26, "free, 0 at least", clock("supply 1;bidder;bidder 5 5 5;").at(0, 0, 2), 0);
    }

    private static void rows() {
        ClinchClock x = clock(RISING);
        int[] wanted = {7, 7, 6, 6, 5, 4, 3, 2, 1, 0};
        for (int price = 0; price < wanted.length; price++) {
            due(29, "wanted " + price, x.wanted(price), wanted[price]);
        }
        due(29, "wanted 99", x.wanted(99), 0);
        due(29, "wanted 100", x.wanted(100), -1);
        due(29, "wanted -1", x.wanted(-1), -1);
        due(31, "worth of none", x.worth(7, 0), 0);
        due(31, "worth to none", x.worth(0, 30), 30);
        due(31, "worth", x.worth(5, 3), 22);
        due(31, "worth with reserve", x.worth(6, 6), 24);
        due(31, "worth, no set", x.worth(8, 1), -1);
        due(31, "worth, -1", x.worth(-1, 1), -1);
        due(31, "worth, 31", x.worth(7, 31), -1);
        due(31, "worth, units -1", x.worth(7, -1), -1);
        due(31, "worth by caps", clock(SPARE).worth(1, 3), 16);
        due(35, "not alike", x.alike(0, 1), 0);
        due(35, "itself", x.alike(1, 1), 1);
        due(35, "no such one", x.alike(0, 3), -1);
        due(35, "no such one", x.alike(-1, 0), -1);
        x = clock("bidder 3 2;bidder 3 2;bidder 3 2 cap 7;bidder 3 1;bidder 3;");
        due(35, "alike", x.alike(0, 1), 1);
        due(35, "another cap", x.alike(0, 2), 0);
        due(35, "another value", x.alike(0, 3), 0);
        due(35, "another first value", clock("bidder 9 1;bidder 8 1;").alike(0, 1), 0);
        due(35, "fewer values", x.alike(4, 0), 0);
        x = clock("bidder 3 3;bidder 7 3 cap 0;");
        int[] whose = {1, 0, 0, 1, -1};
        int[] value = {7, 3, 3, 3, -1};
        for (int k = 0; k < 5; k++) {
            due(36, "whose " + k, x.ranked(k, 0), whose[k]);
            due(36, "value " + k, x.ranked(k, 1), value[k]);
        }
        due(36, "k -1", x.ranked(-1, 0), -1);
        due(36, "what 2", x.ranked(0, 2), -1);
        due(36, "what -1", x.ranked(0, -1), -1);
        pricesAndSteps();
    }

    private static void pricesAndSteps() {
        ClinchClock x = clock(RISING);
        due(37, "for 4", x.priceFor(4), 5);
        due(37, "for 0", x.priceFor(0), 9);
        due(37, "for 7", x.priceFor(7), 0);
        due(37, "for most", x.priceFor(BIG), 0);
        due(37, "for -1", x.priceFor(-1), -1);
        due(37, "for 0, 99", clock("bidder 99;").priceFor(0), 99);
        int[] price = {2, 4, 5, 6, 7, 8, 9, -1};
        int[] wants = {6, 5, 4, 3, 2, 1, 0, -1};
        int[] wanting = {3, 3, 3, 3, 2, 1, 0, -1};
        for (int k = 0; k < price.length; k++) {
            due(38, "price " + k, x.step(k, 0), price[k]);
            due(38, "wants " + k, x.step(k, 1), wants[k]);
            due(38, "wanting " + k, x.step(k, 2), wanting[k]);
        }
        due(38, "k -1", x.step(-1, 0), -1);
        due(38, "k least", x.step(SMALL, 0), -1);
        due(38, "what 3", x.step(0, 3), -1);
        due(38, "what -1", x.step(0, -1), -1);
        due(38, "at 0", clock("bidder 4 0;").step(0, 0), 0);
        due(38, "at 99", clock("bidder 99;").step(0, 0), 99);
        due(38, "at 0, by caps", clock("bidder 4 0 cap 1;").step(0, 0), 4);
    }

    private static void envyAndBlocks() {
        ClinchClock x = clock(RISING);
        // A has 15 - 7, as B 9 - 4; B has 8 - 4, as A 13 - 7.
        due(39, "A", x.envies(0, 0), -2);
        due(39, "B", x.envies(1, 0), 0);
        due(39, "B, one price", x.envies(1, 1), -2);
        // C has 7 - 5; as A 9 - 7, no more; as B 7 - 4.
        due(39, "C", x.envies(2, 0), 1);
        due(39, "C, harm", x.envies(2, 3), 1);
        // By their own values each gains 0; A as B has 9 - 8, as itself 0.
        due(39, "A, own values", x.envies(0, 2), 1);
        due(39, "C, own values", x.envies(2, 2), -2);
        due(39, "no bidder", x.envies(3, 0), -1);
        due(39, "no kind", x.envies(0, 4), -1);
        due(39, "no kind", x.envies(0, -1), -1);
        // B (cap 1) has one unit for 4; A three for 0 + 0 + 5: B could use one of them alone.
        x = clock("supply 4;bidder 9 9 9;bidder 9 9 9 cap 1;bidder 5;");
        due(39, "its own cap", x.envies(1, 0), -2);
        due(40, "no kind", x.blocks(4), -1);
        due(40, "no kind", x.blocks(-1), -1);
        due(40, "no bidders", new ClinchClock().blocks(0), -2);
        // RISING pays 16: {A} is worth 9 + 6 + 4 + 1 = 20 against 16 + 8; {B} 15 against 20; {A, B} 28 against 28;
        // {C} 11 against 18; {A, C} 26 against 26; {B, C} 22 against 22; all 30 against 30: even, none blocks.
        due(40, "clinched", clock(RISING).blocks(0), -2);
        due(40, "harm", clock(RISING).blocks(3), -2);
        due(40, "one price", clock(TIED).blocks(1), -2);
        // {} is worth 18, {A} 13 + 4 * 3 against 6 + 4 * 3 + 7: the reserve for unsold ones counts.
        due(40, "unsold", clock(SPARE).blocks(0), -2);
        due(40, "own values", clock(SPARE).blocks(2), -2);
    }

    private static void otherSupplyAndReserve() {
        ClinchClock x = clock(RISING);
        due(42, "end of 3", x.bySupply(3, 0), 6);
        due(42, "end of 30", x.bySupply(30, 0), 1);
        due(42, "unsold of 30", x.bySupply(30, 2), 23);
        due(42, "as it is", x.bySupply(4, 9), 2);
        due(42, "0", x.bySupply(0, 0), -1);
        due(42, "31", x.bySupply(31, 0), -1);
        due(42, "what 10", x.bySupply(3, 10), -1);
        due(42, "what -1", x.bySupply(3, -1), -1);
        due(43, "end at 6", x.byReserve(6, 0), 6);
        due(43, "sold at 6", x.byReserve(6, 1), 4);
        due(43, "sold at 7", x.byReserve(7, 1), 3);
        due(43, "worth at 9", x.byReserve(9, 6), 36);
        due(43, "at 99", x.byReserve(99, 0), 99);
        due(43, "-1", x.byReserve(-1, 0), -1);
        due(43, "100", x.byReserve(100, 0), -1);
        due(43, "what 10", x.byReserve(1, 10), -1);
        // At 6 four units (9 8 7 6) are sold for 24; at 7 three for 21; at 5 four for 20.
        due(44, "clinched", x.bestReserve(0), 6);
        due(44, "own values", x.bestReserve(2), 0);
        due(44, "no kind", x.bestReserve(4), -1);
        due(44, "no kind", x.bestReserve(-1), -1);
        due(44, "up to 99", clock("bidder 99;").bestReserve(0), 99);
        due(44, "nothing", new ClinchClock().bestReserve(1), 0);
        due(42, "nothing happens", spelt(x), RISING);
        due(42, "no acts", x.count(4), 0);
    }

    private static void otherBidders() {
        ClinchClock x = clock(RISING);
        // Without A: 8 5, 7 2 for four: at the reserve all is wanted by no more than four.
        due(45, "C without A", x.unitsWithout(2, 0), 2);
        due(45, "A without C", x.unitsWithout(0, 2), 2);
        due(45, "A without B", x.unitsWithout(0, 1), 3);
        due(45, "one", x.unitsWithout(1, 1), -1);
        due(45, "none", x.unitsWithout(1, 3), -1);
        due(45, "none", x.unitsWithout(3, 1), -1);
        due(45, "-1", x.unitsWithout(-1, 1), -1);
        // Without A: four at 1. Without B: at 1 A two, C one, at 2 A one. Without C: at 1 A two, B one, at 4 B one.
        due(46, "without A", x.paidWithout(0, 0), 4);
        due(46, "without B", x.paidWithout(1, 0), 5);
        due(46, "without C", x.paidWithout(2, 0), 7);
        due(46, "without C, one price", x.paidWithout(2, 1), 16);
        due(46, "none", x.paidWithout(3, 0), -1);
        due(46, "no kind", x.paidWithout(0, 4), -1);
        due(47, "pivot", x.pivot(), 0);
        due(47, "pivot of none", new ClinchClock().pivot(), -2);
        due(47, "pivot of alike", clock("supply 1;bidder 1;bidder 5;bidder 5;").pivot(), 1);
        due(47, "nothing happens", spelt(x), RISING);
    }

    private static void tellingLess() {
        ClinchClock x = clock(RISING);
        // With 9 6 told the others still want three at 2, and the end is 5; with 9 alone A has one unit for 2.
        due(48, "all", x.tells(0, 0, 3), 8);
        due(48, "two", x.tells(0, 0, 2), 8);
        due(48, "one price, two", x.tells(0, 1, 2), 5);
        due(48, "one", x.tells(0, 0, 1), 7);
        due(48, "none", x.tells(0, 0, 0), 0);
        due(48, "n 4", x.tells(0, 0, 4), NO_GAIN);
        due(48, "n -1", x.tells(0, 0, -1), NO_GAIN);
        due(48, "no kind", x.tells(0, 4, 0), NO_GAIN);
        due(48, "no bidder", x.tells(3, 0, 0), NO_GAIN);
        due(49, "clinched: the greatest n", x.bestTells(0, 0), 3);
        due(49, "own values: 0 always", x.bestTells(0, 2), 3);
        due(49, "no kind", x.bestTells(0, 4), -1);
        due(49, "no bidder", x.bestTells(3, 0), -1);
        // By one price two units cost 4 each, one alone costs nothing.
        ClinchClock y = clock("supply 2;bidder 9 7;bidder 4;");
        due(48, "both told", y.tells(0, 1, 2), 8);
        due(48, "one told", y.tells(0, 1, 1), 9);
        due(49, "one price", y.bestTells(0, 1), 1);
        due(50, "told as it is", y.hides(0, 2, 0), 0);
        due(50, "own, two less", y.hides(0, 2, 2), 4);
        due(50, "own, three less: a tie, got by number", y.hides(0, 2, 3), 6);
        due(50, "own, four less: one unit", y.hides(0, 2, 4), 4);
        due(50, "own, 99 less: one of two", y.hides(0, 2, 99), 9);
        due(50, "one price, five less", y.hides(0, 1, 5), 7);
        due(50, "100 less", y.hides(0, 0, 100), NO_GAIN);
        due(50, "-1 less", y.hides(0, 0, -1), NO_GAIN);
        due(50, "no kind", y.hides(0, 4, 0), NO_GAIN);
        due(50, "no bidder", y.hides(2, 0, 0), NO_GAIN);
        due(51, "own: 9, told as 0", y.bestHides(0, 2), 9);
        due(51, "clinched", y.bestHides(0, 0), 0);
        due(51, "no kind", y.bestHides(0, 4), -1);
        due(51, "no bidder", y.bestHides(2, 0), -1);
        // Alone, 90 is told as 70 at most 20 less.
        due(51, "20 at most", clock("bidder 90;").bestHides(0, 2), 20);
        due(50, "nothing happens", spelt(y), "supply 2;reserve 0;bidder 9 7;bidder 4;");
    }

    private static void twoForOne() {
        ClinchClock x = clock(RISING);
        // Of two the end is 7, A and B have one each; then of two from 6 4, 5, 7 2 the end is 5, A and C have one each.
        due(52, "own values", x.inTwo(2, 2), 9 + 8 + 7 + 6);
        due(52, "one price", x.inTwo(2, 1), 7 * 2 + 5 * 2);
        due(52, "0 units", x.inTwo(0, 0), -1);
        due(52, "all units", x.inTwo(4, 0), -1);
        due(52, "no kind", x.inTwo(2, 4), -1);
        due(52, "no kind", x.inTwo(2, -1), -1);
        due(52, "caps are left", clock("supply 2;bidder 9 9 cap 1;").inTwo(1, 2), 9);
        ClinchClock y = clock("supply 2;bidder 9 7;bidder 4;");
        // A pays 4 by clinching (0 + 4), 8 by one price; 9 and 7 apart pay 4 each.
        due(53, "clinched", y.splitGain(0, 1, 0), 4 - 8);
        due(53, "one price", y.splitGain(0, 1, 1), 0);
        due(53, "all", y.splitGain(0, 2, 0), NO_GAIN);
        due(53, "0", y.splitGain(0, 0, 0), NO_GAIN);
        due(53, "no kind", y.splitGain(0, 1, 4), NO_GAIN);
        due(53, "no bidder", y.splitGain(2, 1, 0), NO_GAIN);
        for (int b = 2; b < 8; b++) {
            y.join();
        }
        due(53, "though there are eight", y.splitGain(0, 1, 0), -4);
        due(53, "nothing happens", y.count(0), 8);
        ClinchClock z = clock("supply 2;bidder 4;bidder 7;bidder 9;");
        // 9 and 7 pay 4 each apart; together 0 + 4.
        due(55, "clinched", z.collude(2, 1, 0), 8 - 4);
        due(55, "clinched", z.collude(1, 2, 0), 8 - 4);
        // 7 pays 4 now; 7 and 4 as one clinch a unit at 0.
        due(55, "4 and 7", z.collude(0, 1, 0), 4 - 0);
        due(55, "one", z.collude(1, 1, 0), NO_GAIN);
        due(55, "no kind", z.collude(0, 1, 4), NO_GAIN);
        due(55, "no bidder", z.collude(0, 3, 0), NO_GAIN);
        due(55, "no bidder", z.collude(-1, 0, 0), NO_GAIN);
        // Sixteen values, the eight greatest: 9 five times, 8 three times; all are paid as own values.
        z = clock("supply 30;bidder 9 9 9 9 9 1 1 1;bidder 8 8 8 8 8 8 8 8;");
        due(55, "eight greatest", z.collude(1, 0, 2), 48 + 64 - 45 - 24);
        // Caps together: 1 + 1 of the values 9 9 5.
        z = clock("supply 30;bidder 9 5 cap 1;bidder 9 cap 1;");
        due(55, "caps together", z.collude(0, 1, 2), 0);
        // In the place of the one told first: ties go by numbers.
        z = clock("supply 1;bidder 5;bidder 5;bidder 5;");
        due(55, "first place", z.collude(0, 2, 0), 0);
        due(55, "last place", z.collude(2, 0, 0), 5);
    }

    private static void leastOnes() {
        ClinchClock x = clock(RISING);
        due(54, "one", x.reserveFor(1), 7);
        due(54, "two", x.reserveFor(2), 8);
        due(54, "four", x.reserveFor(4), 10);
        due(54, "five", x.reserveFor(5), -2);
        due(54, "most", x.reserveFor(BIG), -2);
        due(54, "zero", x.reserveFor(0), -1);
        due(54, "98 is not taken at 99", clock("supply 1;bidder 98;").reserveFor(1), 99);
        due(54, "99 is taken at 99", clock("supply 1;bidder 99;").reserveFor(1), -2);
        due(56, "5", x.supplyFor(5), 4);
        due(56, "8", x.supplyFor(8), 1);
        due(56, "1: the reserve", x.supplyFor(1), 7);
        due(56, "0: below the reserve", x.supplyFor(0), -2);
        due(56, "-1", x.supplyFor(-1), -1);
        due(56, "100", x.supplyFor(100), -1);
        StringBuilder wants = new StringBuilder();
        for (int b = 0; b < 4; b++) {
            wants.append("bidder 9 9 9 9 9 9 9 9;");
        }
        due(56, "more than 30", clock(wants.toString()).supplyFor(8), -2);
        due(56, "30", clock(wants.substring(0, wants.length() - 5) + ";").supplyFor(8), 30);
        due(56, "none wants", clock(wants.toString()).supplyFor(9), 1);
        // B (8 5) loses its second to A's 6: a 6 ties, and A is ahead by the clock; a 7 takes it.
        due(57, "B", x.valueFor(1), 7);
        due(57, "no bidder", x.valueFor(3), -1);
        due(57, "-1", x.valueFor(-1), -1);
        due(57, "by its cap", clock("bidder 5 cap 1;").valueFor(0), -2);
        due(57, "0 at 0", clock("bidder 5;").valueFor(0), 0);
        due(57, "the reserve", clock("reserve 4;bidder 5;").valueFor(0), 4);
        due(57, "up to 99", clock("supply 1;bidder 98;bidder;").valueFor(1), 99);
        due(57, "none would", clock("supply 1;bidder 99;bidder 1;").valueFor(1), -2);
        due(57, "eight", clock("bidder 1 1 1 1 1 1 1 1;").valueFor(0), -1);
        due(57, "nothing happens", spelt(x), RISING);
    }

    private static void spelling() {
        ClinchClock x = clock(SPARE);
        due(58, "spelt", spelt(x), SPARE);
        due(58, "bytes", x.spell(-1), SPARE.length());
        due(58, "beyond", x.spell(SPARE.length()), -2);
        due(58, "most", x.spell(BIG), -2);
        due(58, "-2", x.spell(-2), -1);
        due(58, "least", x.spell(SMALL), -1);
        due(59, "rising", reported(clock(RISING), 0), "end 5;0 has 2 pays 7;1 has 1 pays 4;2 has 1 pays 5;left 0;");
        due(59, "one price", reported(clock(RISING), 1), "end 5;0 has 2 pays 10;1 has 1 pays 5;2 has 1 pays 5;left 0;");
        due(59, "spare", reported(x, 3), "end 3;0 has 2 pays 6;left 4;");
        due(59, "three digits", reported(clock("supply 9;bidder 99 99 99 99 99 99 99 99;"), 2),
            "end 0;0 has 8 pays 792;left 1;");
        due(59, "beyond", x.report(0, x.report(0, -1)), -2);
        due(59, "-2", x.report(0, -2), -1);
        due(59, "no kind", x.report(4, 0), -1);
        due(59, "no kind", x.report(-1, -1), -1);
    }

    private static void counts() {
        ClinchClock x = clock(SPARE);
        x.cap(1, 4);
        x.hold(0);
        feed(x, "sup");
        int[] due = {3, 6, 3, 2, 2, 3, 3, 1, 1, 1, -1};
        for (int what = 0; what < due.length; what++) {
            due(60, "count " + what, x.count(what), due[what]);
        }
        due(60, "count -1", x.count(-1), -1);
        due(60, "no value", clock("bidder;").count(6), -2);
        due(60, "takes at 0", clock("bidder 3 0 0;bidder 0 0 cap 1;").count(9), 4);
    }
}
