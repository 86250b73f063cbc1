/** The edges of promises 42 to 57: what would be, WERE things otherwise; each time nothing happens. */
public final class WereEdgesTest {
    private static final int NONE = Edges.NONE;
    private static final int NOTHING = Edges.NOTHING;
    private static final int NO_GAIN = Edges.NO_GAIN;
    private static final int BIG = Edges.BIG;
    private static final int SMALL = Edges.SMALL;
    private static final String NEW = Edges.EMPTY;
    private static final String RISING = Edges.RISING;
    private static final String FULL = Edges.FULL;
    private static final String EIGHT_VALUES = Edges.EIGHT_VALUES;
    // The first clinches one at 0 and one at 4.
    private static final String PAIR = "supply 2;reserve 0;bidder 9 7;bidder 4;";

    private WereEdgesTest() {
    }

    public static void main(String[] args) {
        Edges.run(WereEdgesTest.class, 42, 57);
    }

    // ---- 42: bySupply

    private static void promise42_of1() {
        Edges.row(RISING, (x, what) -> x.bySupply(1, what), 8, 1, 0, 1, 1, 9, 9, 1, 8, 8, NONE);
    }

    private static void promise42_of30() {
        Edges.row(RISING, (x, what) -> x.bySupply(30, what), 1, 7, 23, 7, 3, 41, 64, 1, 1, 1, NONE);
    }

    private static void promise42_asItIs() {
        Edges.row(RISING, (x, what) -> x.bySupply(4, what), 5, 4, 0, 4, 3, 30, 30, 3, 5, 2, NONE);
    }

    private static void promise42_ofNobody() {
        Edges.row(NEW, (x, what) -> x.bySupply(3, what), 0, 0, 3, 0, 0, 0, 0, 0, NOTHING, NOTHING, NONE);
    }

    private static void promise42_anotherSupply() {
        Edges.outside(RISING, 1, 30, (x, units) -> x.bySupply(units, 0), NONE);
        Edges.outside(RISING, 1, 30, (x, units) -> x.bySupply(units, 2), NONE);
    }

    private static void promise42_anotherWhat() {
        Edges.outside(RISING, 0, 9, (x, what) -> x.bySupply(3, what), NONE);
    }

    // ---- 43: byReserve

    private static void promise43_of0() {
        Edges.row(RISING, (x, what) -> x.byReserve(0, what), 5, 4, 0, 4, 3, 30, 30, 3, 5, 2, NONE);
    }

    private static void promise43_of99() {
        Edges.row(RISING, (x, what) -> x.byReserve(99, what), 99, 0, 4, 0, 0, 0, 396, 0, NOTHING, NOTHING, NONE);
        Edges.answers(NEW + "bidder 99;", x -> x.byReserve(99, 1), 1);
    }

    private static void promise43_ofTheGreatestValue() {
        Edges.row(RISING, (x, what) -> x.byReserve(9, what), 9, 1, 3, 0, 1, 9, 36, 0, 9, 9, NONE);
    }

    private static void promise43_asItIs() {
        Edges.answers(RISING, x -> x.byReserve(1, 0), 5);
        Edges.answers("supply 2;reserve 7;", x -> x.byReserve(7, 0), 7);
    }

    private static void promise43_anotherReserve() {
        Edges.outside(RISING, 0, 99, (x, price) -> x.byReserve(price, 0), NONE);
        Edges.outside(RISING, 0, 99, (x, price) -> x.byReserve(price, 6), NONE);
    }

    private static void promise43_anotherWhat() {
        Edges.outside(RISING, 0, 9, (x, what) -> x.byReserve(3, what), NONE);
    }

    // ---- 44: bestReserve

    private static void promise44_byEachKind() {
        // At 6 four go for 6 each; by own values 30 from 0 on.
        Edges.row(RISING, (x, kind) -> x.bestReserve(kind), 6, 6, 0, 6, NONE);
    }

    private static void promise44_99() {
        Edges.row(NEW + "bidder 99;", (x, kind) -> x.bestReserve(kind), 99, 99, 0, 99, NONE);
    }

    private static void promise44_98() {
        Edges.answers(NEW + "bidder 98;", x -> x.bestReserve(0), 98);
    }

    private static void promise44_ofSeveralTheLeast() {
        Edges.row(NEW, (x, kind) -> x.bestReserve(kind), 0, 0, 0, 0, NONE);
        // Two for 3 or one for 6.
        Edges.answers(NEW + "bidder 6 3;", x -> x.bestReserve(0), 3);
    }

    private static void promise44_belowTheReserveThatIs() {
        Edges.answers("supply 10;reserve 50;bidder 6 5;", x -> x.bestReserve(0), 5);
    }

    private static void promise44_noSuchKind() {
        Edges.noSuchKind(RISING, (x, kind) -> x.bestReserve(kind), NONE);
        Edges.noSuchKind(NEW, (x, kind) -> x.bestReserve(kind), NONE);
    }

    // ---- 45: unitsWithout

    private static void promise45_aboveAndBelow() {
        Edges.answers(RISING, x -> x.unitsWithout(2, 0), 2);
        Edges.answers(RISING, x -> x.unitsWithout(1, 0), 2);
        Edges.answers(RISING, x -> x.unitsWithout(0, 1), 3);
        Edges.answers(RISING, x -> x.unitsWithout(2, 1), 1);
        Edges.answers(RISING, x -> x.unitsWithout(0, 2), 2);
        Edges.answers(RISING, x -> x.unitsWithout(1, 2), 2);
    }

    private static void promise45_ofEightFullBidders() {
        // The end is 60 then: four each, and two are left for the first two of the seven.
        Edges.answers(FULL, x -> x.unitsWithout(7, 0), 4);
        Edges.answers(FULL, x -> x.unitsWithout(1, 0), 5);
        Edges.answers(FULL, x -> x.unitsWithout(2, 0), 5);
        Edges.answers(FULL, x -> x.unitsWithout(3, 0), 4);
        Edges.answers(FULL, x -> x.unitsWithout(0, 7), 5);
    }

    private static void promise45_bothAreOne() {
        Edges.refused(RISING, x -> x.unitsWithout(1, 1), NONE);
    }

    private static void promise45_noSuchOnes() {
        Edges.noSuchBidder(RISING, (x, b) -> x.unitsWithout(b, 0), NONE);
        Edges.noSuchBidder(RISING, (x, b) -> x.unitsWithout(0, b), NONE);
        Edges.noSuchBidder(NEW, (x, b) -> x.unitsWithout(b, 0), NONE);
        Edges.noSuchBidder(FULL, (x, b) -> x.unitsWithout(0, b), NONE);
        Edges.refused(RISING, x -> x.unitsWithout(3, 4), NONE);
    }

    // ---- 46: paidWithout

    private static void promise46_eachOne() {
        Edges.row(RISING, (x, b) -> x.paidWithout(b, 0), 4, 5, 7, NONE);
        Edges.row(RISING, (x, kind) -> x.paidWithout(2, kind), 7, 16, 9 + 6 + 8 + 5, 7, NONE);
    }

    private static void promise46_theOnlyOne() {
        Edges.row("supply 2;reserve 3;bidder 9;", (x, kind) -> x.paidWithout(0, kind), 0, 0, 0, 0, NONE);
    }

    private static void promise46_oneOfEight() {
        Edges.answers(FULL, x -> x.paidWithout(0, 1), 1800);
        Edges.answers(FULL, x -> x.paidWithout(7, 1), 1800);
    }

    private static void promise46_noSuchKind() {
        Edges.noSuchKind(RISING, (x, kind) -> x.paidWithout(0, kind), NONE);
    }

    private static void promise46_noSuchBidder() {
        Edges.noSuchBidder(RISING, (x, b) -> x.paidWithout(b, 0), NONE);
        Edges.noSuchBidder(NEW, (x, b) -> x.paidWithout(b, 0), NONE);
        Edges.noSuchBidder(FULL, (x, b) -> x.paidWithout(b, 0), NONE);
    }

    // ---- 47: pivot

    private static void promise47_theFirst() {
        Edges.answers(RISING, x -> x.pivot(), 0);
    }

    private static void promise47_theLast() {
        Edges.answers("supply 2;reserve 0;bidder 3;bidder 3;bidder 9 9;", x -> x.pivot(), 2);
    }

    private static void promise47_ofSeveralTheFirst() {
        // Without the first 4 is paid, without the second or the third 1.
        Edges.answers("supply 1;reserve 0;bidder 1;bidder 4;bidder 5;", x -> x.pivot(), 1);
        Edges.answers(FULL, x -> x.pivot(), 0);
    }

    private static void promise47_theOnlyOne() {
        Edges.answers("supply 1;reserve 5;bidder 9;", x -> x.pivot(), 0);
        Edges.answers(NEW + "bidder;", x -> x.pivot(), 0);
    }

    private static void promise47_thereAreNone() {
        Edges.answers(NEW, x -> x.pivot(), NOTHING);
    }

    // ---- 48: tells

    private static void promise48_none() {
        Edges.row(PAIR, (x, kind) -> x.tells(0, kind, 0), 0, 0, 0, 0, NO_GAIN);
    }

    private static void promise48_allIsAsItIs() {
        Edges.row(PAIR, (x, kind) -> x.tells(0, kind, 2), 12, 8, 0, 12, NO_GAIN);
    }

    private static void promise48_someByTrueValues() {
        Edges.row(PAIR, (x, kind) -> x.tells(0, kind, 1), 9, 9, 0, 9, NO_GAIN);
    }

    private static void promise48_ofTheLastBidder() {
        Edges.row("supply 2;reserve 0;bidder 4;bidder 9 7;", (x, n) -> x.tells(1, 1, n), 0, 9, 8, NO_GAIN);
    }

    private static void promise48_withoutValues() {
        Edges.answers(NEW + "bidder;", x -> x.tells(0, 0, 0), 0);
        Edges.refused(NEW + "bidder;", x -> x.tells(0, 0, 1), NO_GAIN);
    }

    private static void promise48_eight() {
        Edges.answers(EIGHT_VALUES, x -> x.tells(0, 0, 8), 360);
        Edges.refused(EIGHT_VALUES, x -> x.tells(0, 0, 9), NO_GAIN);
    }

    private static void promise48_noSuchN() {
        Edges.outside(PAIR, 0, 2, (x, n) -> x.tells(0, 0, n), NO_GAIN);
    }

    private static void promise48_noSuchKind() {
        Edges.noSuchKind(PAIR, (x, kind) -> x.tells(0, kind, 1), NO_GAIN);
    }

    private static void promise48_noSuchBidder() {
        Edges.noSuchBidder(PAIR, (x, b) -> x.tells(b, 0, 0), NO_GAIN);
        Edges.noSuchBidder(NEW, (x, b) -> x.tells(b, 0, 0), NO_GAIN);
        Edges.noSuchBidder(FULL, (x, b) -> x.tells(b, 0, 0), NO_GAIN);
    }

    // ---- 49: bestTells

    private static void promise49_byEachKind() {
        Edges.row(PAIR, (x, kind) -> x.bestTells(0, kind), 2, 1, 2, 2, NONE);
    }

    private static void promise49_ofSeveralTheGreatest() {
        // With 9 6 told the gain is 8, as with 9 6 4.
        Edges.answers(RISING, x -> x.tells(0, 0, 2), 8);
        Edges.answers(RISING, x -> x.tells(0, 0, 3), 8);
        Edges.answers(RISING, x -> x.bestTells(0, 0), 3);
    }

    private static void promise49_noneAtAll() {
        Edges.answers(NEW + "bidder;", x -> x.bestTells(0, 1), 0);
    }

    private static void promise49_allOfEight() {
        Edges.answers(EIGHT_VALUES, x -> x.bestTells(0, 0), 8);
    }

    private static void promise49_noSuchKind() {
        Edges.noSuchKind(PAIR, (x, kind) -> x.bestTells(0, kind), NONE);
    }

    private static void promise49_noSuchBidder() {
        Edges.noSuchBidder(PAIR, (x, b) -> x.bestTells(b, 0), NONE);
        Edges.noSuchBidder(NEW, (x, b) -> x.bestTells(b, 0), NONE);
        Edges.noSuchBidder(FULL, (x, b) -> x.bestTells(b, 0), NONE);
    }

    // ---- 50: hides

    private static void promise50_0LessIsAsItIs() {
        Edges.row(PAIR, (x, kind) -> x.hides(0, kind, 0), 12, 8, 0, 12, NO_GAIN);
    }

    private static void promise50_99LessIs0Each() {
        // Both are told as 0: at the end, 0, one is left for the first.
        Edges.row(PAIR, (x, kind) -> x.hides(0, kind, 99), 9, 9, 9, 9, NO_GAIN);
        Edges.answers(NEW + "bidder 99;", x -> x.hides(0, 2, 99), 99);
    }

    private static void promise50_0AtLeastEach() {
        // 9 and 7 by 8 are 1 and 0.
        Edges.answers(PAIR, x -> x.hides(0, 2, 8), 8);
        // 5 and 1 by 3 are 2 and 0, which is taken at 0 still.
        Edges.answers("supply 2;reserve 0;bidder 5 1;", x -> x.hides(0, 2, 3), 4);
    }

    private static void promise50_byOwnValuesWhatItToldIsPaid() {
        Edges.row(PAIR, (x, by) -> x.hides(0, 2, by), 0, 2, 4, 6, 4);
    }

    private static void promise50_aTieIsGotByNumber() {
        // 6 and 4 told against 4: the second unit comes round by round.
        Edges.answers(PAIR, x -> x.hides(0, 0, 3), 12);
        Edges.answers(PAIR, x -> x.hides(0, 0, 4), 9);
    }

    private static void promise50_ofTheLastBidder() {
        // By 3 a tie at 4 goes to the other one.
        Edges.row("supply 2;reserve 0;bidder 4;bidder 9 7;", (x, by) -> x.hides(1, 2, by), 0, 2, 4, 3, 4);
    }

    private static void promise50_theReserve() {
        Edges.answers("supply 1;reserve 80;bidder 90;", x -> x.hides(0, 2, 10), 10);
        Edges.answers("supply 1;reserve 80;bidder 90;", x -> x.hides(0, 2, 11), 0);
    }

    private static void promise50_withoutValues() {
        Edges.answers(NEW + "bidder;", x -> x.hides(0, 2, 5), 0);
    }

    private static void promise50_noSuchLess() {
        Edges.outside(PAIR, 0, 99, (x, by) -> x.hides(0, 0, by), NO_GAIN);
        Edges.outside(PAIR, 0, 99, (x, by) -> x.hides(0, 2, by), NO_GAIN);
    }

    private static void promise50_noSuchKind() {
        Edges.noSuchKind(PAIR, (x, kind) -> x.hides(0, kind, 1), NO_GAIN);
    }

    private static void promise50_noSuchBidder() {
        Edges.noSuchBidder(PAIR, (x, b) -> x.hides(b, 0, 0), NO_GAIN);
        Edges.noSuchBidder(NEW, (x, b) -> x.hides(b, 0, 0), NO_GAIN);
        Edges.noSuchBidder(FULL, (x, b) -> x.hides(b, 2, 0), NO_GAIN);
    }

    // ---- 51: bestHides

    private static void promise51_20AtMost() {
        Edges.answers(NEW + "bidder 90;", x -> x.hides(0, 2, 21), 21);
        Edges.answers(NEW + "bidder 90;", x -> x.bestHides(0, 2), 20);
        Edges.answers(NEW + "bidder 20;", x -> x.bestHides(0, 2), 20);
        Edges.answers(NEW + "bidder 19;", x -> x.bestHides(0, 2), 19);
    }

    private static void promise51_0WhereNothingIsGained() {
        Edges.row(PAIR, (x, kind) -> x.bestHides(0, kind), 0, 7, 9, 0, NONE);
    }

    private static void promise51_ofSeveralTheLeast() {
        // From 9 on both are told as 0.
        Edges.answers(PAIR, x -> x.hides(0, 2, 9), 9);
        Edges.answers(PAIR, x -> x.hides(0, 2, 20), 9);
        Edges.answers(PAIR, x -> x.bestHides(0, 2), 9);
    }

    private static void promise51_theReserve() {
        Edges.answers("supply 1;reserve 80;bidder 90;", x -> x.bestHides(0, 2), 10);
    }

    private static void promise51_withoutValues() {
        Edges.row(NEW + "bidder;", (x, kind) -> x.bestHides(0, kind), 0, 0, 0, 0, NONE);
    }

    private static void promise51_noSuchKind() {
        Edges.noSuchKind(PAIR, (x, kind) -> x.bestHides(0, kind), NONE);
    }

    private static void promise51_noSuchBidder() {
        Edges.noSuchBidder(PAIR, (x, b) -> x.bestHides(b, 0), NONE);
        Edges.noSuchBidder(NEW, (x, b) -> x.bestHides(b, 0), NONE);
        Edges.noSuchBidder(FULL, (x, b) -> x.bestHides(b, 2), NONE);
    }

    // ---- 52: inTwo

    private static void promise52_oneThenTheOthers() {
        // The first pays 8; then 6 4, 8 5, 7 2 for three: 5 + 4 + 5, the end is 5.
        Edges.row(RISING, (x, kind) -> x.inTwo(1, kind), 8 + 14, 8 + 15, 30, 8 + 14, NONE);
    }

    private static void promise52_allButOneThenOne() {
        // One each for 5, 6, 6, the end is 6; then 6 4, 5, 2 for one: 5.
        Edges.row(RISING, (x, kind) -> x.inTwo(3, kind), 17 + 5, 18 + 5, 30, 17 + 5, NONE);
    }

    private static void promise52_allIsRefused() {
        Edges.refused(RISING, x -> x.inTwo(4, 0), NONE);
    }

    private static void promise52_noneIsRefused() {
        Edges.refused(RISING, x -> x.inTwo(0, 0), NONE);
    }

    private static void promise52_noSuchUnits() {
        Edges.outside(RISING, 1, 3, (x, units) -> x.inTwo(units, 2), NONE);
        Edges.outside("supply 30;reserve 0;bidder 9;", 1, 29, (x, units) -> x.inTwo(units, 2), NONE);
    }

    private static void promise52_aSupplyOf1HasNoTwo() {
        Edges.refused("supply 1;reserve 0;bidder 9;", x -> x.inTwo(1, 0), NONE);
        Edges.refused("supply 1;reserve 0;bidder 9;", x -> x.inTwo(0, 0), NONE);
    }

    private static void promise52_aSupplyOf2() {
        Edges.answers("supply 2;reserve 0;bidder 9 7;", x -> x.inTwo(1, 2), 16);
    }

    private static void promise52_29Of30() {
        Edges.answers("supply 30;reserve 2;bidder 9 7;bidder 9;", x -> x.inTwo(29, 0), 6);
        Edges.answers("supply 30;reserve 2;bidder 9 7;bidder 9;", x -> x.inTwo(1, 2), 25);
    }

    private static void promise52_capsAreLeftByTheFirst() {
        Edges.answers("supply 2;reserve 0;bidder 9 9 cap 1;", x -> x.inTwo(1, 2), 9);
        Edges.answers("supply 2;reserve 0;bidder 9 9 cap 2;", x -> x.inTwo(1, 2), 18);
    }

    private static void promise52_ofNobody() {
        Edges.row(NEW, (x, kind) -> x.inTwo(9, kind), 0, 0, 0, 0, NONE);
    }

    private static void promise52_noSuchKind() {
        Edges.noSuchKind(RISING, (x, kind) -> x.inTwo(2, kind), NONE);
    }

    // ---- 53: splitGain

    private static void promise53_one() {
        Edges.row(RISING, (x, kind) -> x.splitGain(0, 1, kind), -2, 0, 0, -2, NO_GAIN);
    }

    private static void promise53_allButOne() {
        Edges.row(RISING, (x, kind) -> x.splitGain(0, 2, kind), -3, 0, 0, -3, NO_GAIN);
    }

    private static void promise53_asManyAsItHas() {
        Edges.refused(RISING, x -> x.splitGain(0, 3, 0), NO_GAIN);
        Edges.refused(NEW + "bidder 5;", x -> x.splitGain(0, 1, 0), NO_GAIN);
    }

    private static void promise53_noSuchN() {
        Edges.outside(RISING, 1, 2, (x, n) -> x.splitGain(0, n, 0), NO_GAIN);
        Edges.outside(EIGHT_VALUES, 1, 7, (x, n) -> x.splitGain(0, n, 0), NO_GAIN);
        Edges.refused(NEW + "bidder;", x -> x.splitGain(0, 0, 0), NO_GAIN);
        Edges.refused(NEW + "bidder;", x -> x.splitGain(0, 1, 0), NO_GAIN);
    }

    private static void promise53_withItsCap() {
        // Two units by a cap of one each.
        Edges.answers("supply 9;reserve 3;bidder 9 8 7 cap 1;", x -> x.splitGain(0, 2, 0), 3 - 6);
    }

    private static void promise53_thoughThereAreEight() {
        String text = PAIR + "bidder;".repeat(6);
        Edges.row(text, (x, kind) -> x.splitGain(0, 1, kind), -4, 0, 0, -4, NO_GAIN);
        // 98 pays 70, 90 80 .. pay 60 + 70; together it pays 60 + 60 + 70.
        Edges.answers(FULL, x -> x.splitGain(7, 7, 0), 190 - 200);
    }

    private static void promise53_noSuchKind() {
        Edges.noSuchKind(RISING, (x, kind) -> x.splitGain(0, 1, kind), NO_GAIN);
    }

    private static void promise53_noSuchBidder() {
        Edges.noSuchBidder(RISING, (x, b) -> x.splitGain(b, 1, 0), NO_GAIN);
        Edges.noSuchBidder(NEW, (x, b) -> x.splitGain(b, 1, 0), NO_GAIN);
        Edges.noSuchBidder(FULL, (x, b) -> x.splitGain(b, 1, 0), NO_GAIN);
    }

    // ---- 54: reserveFor

    private static void promise54_eachNumber() {
        Edges.row(RISING, (x, units) -> x.reserveFor(units), NONE, 7, 8, 9, 10, NOTHING);
    }

    private static void promise54_below1() {
        Edges.refused(RISING, x -> x.reserveFor(0), NONE);
        Edges.refused(RISING, x -> x.reserveFor(-1), NONE);
        Edges.refused(RISING, x -> x.reserveFor(SMALL), NONE);
    }

    private static void promise54_moreThanThereAre() {
        Edges.answers(RISING, x -> x.reserveFor(5), NOTHING);
        Edges.answers(RISING, x -> x.reserveFor(31), NOTHING);
        Edges.answers(RISING, x -> x.reserveFor(BIG), NOTHING);
    }

    private static void promise54_0() {
        Edges.answers(NEW, x -> x.reserveFor(10), 0);
        Edges.answers("supply 10;reserve 50;bidder 9;", x -> x.reserveFor(9), 0);
    }

    private static void promise54_99() {
        Edges.answers("supply 1;reserve 0;bidder 98;", x -> x.reserveFor(1), 99);
    }

    private static void promise54_byNone() {
        Edges.answers("supply 1;reserve 0;bidder 99;", x -> x.reserveFor(1), NOTHING);
    }

    private static void promise54_orMore() {
        // At 5 all three are unsold at once, never one or two alone.
        Edges.row("supply 3;reserve 0;bidder 4 4 4;", (x, units) -> x.reserveFor(units), NONE, 5, 5, 5, NOTHING);
    }

    // ---- 55: collude

    private static void promise55_inPlaceOfTheOneToldFirst() {
        // Three alike ones for one unit: in the first place it pays as before, in the last it has none.
        String text = "supply 1;reserve 0;bidder 5;bidder 5;bidder 5;";
        Edges.answers(text, x -> x.collude(0, 2, 0), 0);
        Edges.answers(text, x -> x.collude(2, 0, 0), 5);
        Edges.answers(text, x -> x.collude(1, 0, 0), 0);
    }

    private static void promise55_byEachKind() {
        String text = "supply 2;reserve 0;bidder 4;bidder 7;bidder 9;";
        Edges.row(text, (x, kind) -> x.collude(2, 1, kind), 4, 0, 0, 4, NO_GAIN);
        Edges.row(text, (x, kind) -> x.collude(1, 2, kind), 4, 0, 0, 4, NO_GAIN);
    }

    private static void promise55_theEightGreatestValues() {
        String text = "supply 30;reserve 0;bidder 9 9 9 9 9 1 1 1;bidder 8 8 8 8 8 8 8 8;";
        Edges.answers(text, x -> x.collude(0, 1, 2), 48 + 64 - 45 - 24);
        Edges.answers(text, x -> x.collude(1, 0, 2), 48 + 64 - 45 - 24);
    }

    private static void promise55_nineValues() {
        String text = EIGHT_VALUES + "bidder 15;";
        Edges.answers(text, x -> x.collude(0, 1, 2), 10);
        Edges.answers(text, x -> x.collude(1, 0, 2), 10);
        // The least of nine goes, whosever it is.
        Edges.answers(EIGHT_VALUES + "bidder 9;", x -> x.collude(0, 1, 2), 9);
        Edges.answers(EIGHT_VALUES + "bidder 99;", x -> x.collude(0, 1, 2), 10);
    }

    private static void promise55_capsTogether() {
        Edges.answers("supply 30;reserve 1;bidder 9 8 cap 1;bidder 7 6 cap 1;", x -> x.collude(0, 1, 2), 16 - 17);
        Edges.answers("supply 30;reserve 1;bidder 9 8 cap 0;bidder 7 6 cap 0;", x -> x.collude(0, 1, 2), 0);
        Edges.answers("supply 30;reserve 1;bidder 9 8 cap 0;bidder 7 6 cap 1;", x -> x.collude(0, 1, 2), 7 - 9);
    }

    private static void promise55_capsAre8AtMost() {
        String text = "supply 30;reserve 0;bidder 9 9 9 9 9 9 9 9;bidder 9 9 9 9 9 9 9 9;";
        Edges.answers(text, x -> x.collude(0, 1, 2), 144 - 72);
    }

    private static void promise55_withoutValues() {
        Edges.answers(NEW + "bidder;bidder;", x -> x.collude(0, 1, 0), 0);
        Edges.answers("supply 2;reserve 3;bidder;bidder 5;", x -> x.collude(0, 1, 0), 0);
    }

    private static void promise55_ofEightFullBidders() {
        // In the first place six go for 60 and one round by round; in the last six alone.
        Edges.answers(FULL, x -> x.collude(0, 7, 0), 450 - 430);
        Edges.answers(FULL, x -> x.collude(7, 0, 0), 450 - 360);
        Edges.answers(FULL, x -> x.collude(7, 0, 1), 490 - 420);
    }

    private static void promise55_bothAreOne() {
        Edges.refused(RISING, x -> x.collude(1, 1, 0), NO_GAIN);
    }

    private static void promise55_noSuchOnes() {
        Edges.noSuchBidder(RISING, (x, b) -> x.collude(b, 0, 0), NO_GAIN);
        Edges.noSuchBidder(RISING, (x, b) -> x.collude(0, b, 0), NO_GAIN);
        Edges.noSuchBidder(NEW, (x, b) -> x.collude(b, 0, 0), NO_GAIN);
        Edges.noSuchBidder(FULL, (x, b) -> x.collude(0, b, 0), NO_GAIN);
        Edges.noSuchKind(RISING, (x, kind) -> x.collude(0, 1, kind), NO_GAIN);
    }

    // ---- 56: supplyFor

    private static void promise56_eachPrice() {
        Edges.row(RISING, (x, price) -> x.supplyFor(price), NOTHING, 7, 6, 6, 5, 4, 3, 2, 1, 1);
    }

    private static void promise56_0And99Stand() {
        Edges.answers(NEW, x -> x.supplyFor(0), 1);
        Edges.answers(NEW + "bidder 99 99;", x -> x.supplyFor(99), 1);
        Edges.answers(NEW + "bidder 99 99;", x -> x.supplyFor(98), 2);
        Edges.answers(NEW + "bidder 9 8 7;", x -> x.supplyFor(0), 3);
    }

    private static void promise56_30() {
        String thirty = "bidder 9 9 9 9 9 9 9 9;".repeat(3) + "bidder 9 9 9 9 9 9;";
        Edges.answers("supply 1;reserve 0;" + thirty, x -> x.supplyFor(8), 30);
    }

    private static void promise56_byNone() {
        String thirtyOne = "bidder 9 9 9 9 9 9 9 9;".repeat(3) + "bidder 9 9 9 9 9 9 9;";
        Edges.answers("supply 1;reserve 0;" + thirtyOne, x -> x.supplyFor(8), NOTHING);
        Edges.answers("supply 1;reserve 0;" + thirtyOne, x -> x.supplyFor(9), 1);
    }

    private static void promise56_belowTheReserveByNone() {
        Edges.answers("supply 1;reserve 99;", x -> x.supplyFor(98), NOTHING);
        Edges.answers("supply 1;reserve 99;", x -> x.supplyFor(99), 1);
    }

    private static void promise56_anotherPrice() {
        Edges.outside(RISING, 0, 99, (x, price) -> x.supplyFor(price), NONE);
        Edges.outside(NEW, 0, 99, (x, price) -> x.supplyFor(price), NONE);
    }

    // ---- 57: valueFor

    private static void promise57_eachBidder() {
        // The first would have 9 and the new one; a 7 beats the 6 of the first, a 6 does not.
        Edges.row(RISING, (x, b) -> x.valueFor(b), NOTHING, 7, 7, NONE);
    }

    private static void promise57_0() {
        Edges.answers(NEW + "bidder 5;", x -> x.valueFor(0), 0);
        Edges.answers(NEW + "bidder;", x -> x.valueFor(0), 0);
    }

    private static void promise57_theReserve() {
        Edges.answers("supply 10;reserve 99;bidder;", x -> x.valueFor(0), 99);
        Edges.answers("supply 10;reserve 4;bidder 5;", x -> x.valueFor(0), 4);
    }

    private static void promise57_99() {
        Edges.answers("supply 1;reserve 0;bidder 98;bidder;", x -> x.valueFor(1), 99);
    }

    private static void promise57_aTieByNumber() {
        Edges.answers("supply 1;reserve 0;bidder;bidder 98;", x -> x.valueFor(0), 98);
    }

    private static void promise57_noneWould() {
        Edges.answers("supply 1;reserve 0;bidder 99;bidder;", x -> x.valueFor(1), NOTHING);
        Edges.answers(NEW + "bidder 5 cap 1;", x -> x.valueFor(0), NOTHING);
        Edges.answers(NEW + "bidder cap 0;", x -> x.valueFor(0), NOTHING);
        Edges.answers("supply 1;reserve 0;bidder 5;", x -> x.valueFor(0), NOTHING);
    }

    private static void promise57_sevenValues() {
        Edges.answers(NEW + "bidder 9 8 7 6 5 4 3;", x -> x.valueFor(0), 0);
        Edges.answers(NEW + "bidder 9 8 7 6 5 4 3 cap 7;", x -> x.valueFor(0), NOTHING);
    }

    private static void promise57_eightValues() {
        Edges.refused(EIGHT_VALUES, x -> x.valueFor(0), NONE);
        Edges.refused(FULL, x -> x.valueFor(7), NONE);
    }

    private static void promise57_noSuchBidder() {
        Edges.noSuchBidder(RISING, (x, b) -> x.valueFor(b), NONE);
        Edges.noSuchBidder(NEW, (x, b) -> x.valueFor(b), NONE);
        Edges.noSuchBidder(Edges.EIGHT, (x, b) -> x.valueFor(b), NONE);
    }
}
