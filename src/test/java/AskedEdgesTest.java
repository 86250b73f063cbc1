/** The edges of promises 21 to 41: what is asked of things as they are. */
public final class AskedEdgesTest {
    private static final int NONE = Edges.NONE;
    private static final int NOTHING = Edges.NOTHING;
    private static final int NO_GAIN = Edges.NO_GAIN;
    private static final int BIG = Edges.BIG;
    private static final int SMALL = Edges.SMALL;
    private static final String NEW = Edges.EMPTY;
    private static final String RISING = Edges.RISING;
    private static final String TIED = Edges.TIED;
    private static final String SPARE = Edges.SPARE;
    private static final String ONE_TIE = Edges.ONE_TIE;
    // At 60 each clinches two, at 70 (the end) one; the six that are left go to the first six.
    private static final String FULL = Edges.FULL;

    private AskedEdgesTest() {
    }

    public static void main(String[] args) {
        Edges.run(AskedEdgesTest.class, 21, 41);
    }

    // ---- 21: of

    private static void promise21_eachWhat() {
        Edges.row(RISING, (x, what) -> x.of(0, what), 3, 8, 2, 15, 0, 2, NONE);
        Edges.row(FULL, (x, what) -> x.of(0, what), 8, 7, 4, 98 + 90 + 80 + 70, 1, 60, NONE);
        Edges.row(FULL, (x, what) -> x.of(7, what), 8, 7, 3, 98 + 90 + 80, 0, 60, NONE);
    }

    private static void promise21_withoutValues() {
        Edges.row(SPARE, (x, what) -> x.of(2, what), 0, 8, 0, 0, 0, NOTHING);
    }

    private static void promise21_aCapOf0() {
        Edges.row(NEW + "bidder 5 cap 0;", (x, what) -> x.of(0, what), 1, 0, 0, 0, 0, NOTHING);
    }

    private static void promise21_clinchedFirstAt0() {
        Edges.answers(TIED, x -> x.of(0, 5), 0);
    }

    private static void promise21_clinchedFirstWithoutAUnit() {
        Edges.answers(ONE_TIE, x -> x.of(1, 2), 0);
        Edges.answers(ONE_TIE, x -> x.of(1, 5), NOTHING);
    }

    private static void promise21_clinchedFirstWithoutAUnitByTheClock() {
        Edges.answers(ONE_TIE, x -> x.of(0, 2), 1);
        Edges.answers(ONE_TIE, x -> x.of(0, 4), 1);
        Edges.answers(ONE_TIE, x -> x.of(0, 5), NOTHING);
    }

    private static void promise21_noneForOthers() {
        Edges.outside(RISING, 0, 5, (x, what) -> x.of(0, what), NONE);
        Edges.noSuchBidder(RISING, (x, b) -> x.of(b, 0), NONE);
        Edges.noSuchBidder(NEW, (x, b) -> x.of(b, 0), NONE);
        Edges.noSuchBidder(FULL, (x, b) -> x.of(b, 5), NONE);
    }

    // ---- 22: valueOf

    private static void promise22_theFirstAndTheLast() {
        Edges.row(Edges.EIGHT_VALUES, (x, i) -> x.valueOf(0, i), 80, 70, 60, 50, 40, 30, 20, 10, NONE);
        Edges.row(NEW + "bidder 99 0;", (x, i) -> x.valueOf(0, i), 99, 0, NONE);
    }

    private static void promise22_noSuchValue() {
        Edges.outside(RISING, 0, 2, (x, i) -> x.valueOf(0, i), NONE);
        Edges.outside(Edges.EIGHT_VALUES, 0, 7, (x, i) -> x.valueOf(0, i), NONE);
        Edges.refused(SPARE, x -> x.valueOf(2, 0), NONE);
    }

    private static void promise22_aValueThatWentIsNoneAnyMore() {
        ClinchClock x = Edges.clock(RISING);
        x.without(0, 2);
        Edges.due(x.valueOf(0, 2), NONE);
        x.clear(0);
        Edges.due(x.valueOf(0, 0), NONE);
    }

    private static void promise22_noSuchBidder() {
        Edges.noSuchBidder(RISING, (x, b) -> x.valueOf(b, 0), NONE);
        Edges.noSuchBidder(NEW, (x, b) -> x.valueOf(b, 0), NONE);
        Edges.noSuchBidder(FULL, (x, b) -> x.valueOf(b, 0), NONE);
    }

    // ---- 23: unit

    private static void promise23_eachUnit() {
        Edges.row(RISING, (x, i) -> x.unit(0, i), 2, 5, NOTHING);
        Edges.row(FULL, (x, i) -> x.unit(5, i), 60, 60, 70, 70, NOTHING);
        Edges.row(FULL, (x, i) -> x.unit(6, i), 60, 60, 70, NOTHING);
    }

    private static void promise23_eightUnits() {
        Edges.row("supply 30;reserve 7;bidder 9 9 9 9 9 9 9 9;", (x, i) -> x.unit(0, i), 7, 7, 7, 7, 7, 7, 7, 7, NOTHING);
    }

    private static void promise23_aPriceOf0() {
        Edges.row(TIED, (x, i) -> x.unit(0, i), 0, 5, NOTHING);
    }

    private static void promise23_itHasNotSoMany() {
        Edges.answers(RISING, x -> x.unit(0, BIG), NOTHING);
        Edges.answers(RISING, x -> x.unit(0, 8), NOTHING);
        Edges.answers(ONE_TIE, x -> x.unit(1, 0), NOTHING);
    }

    private static void promise23_below0() {
        Edges.refused(RISING, x -> x.unit(0, -1), NONE);
        Edges.refused(RISING, x -> x.unit(0, SMALL), NONE);
        Edges.refused(ONE_TIE, x -> x.unit(1, -1), NONE);
    }

    private static void promise23_noSuchBidder() {
        Edges.noSuchBidder(RISING, (x, b) -> x.unit(b, 0), NONE);
        Edges.noSuchBidder(RISING, (x, b) -> x.unit(b, 9), NONE);
        Edges.noSuchBidder(NEW, (x, b) -> x.unit(b, 0), NONE);
        Edges.noSuchBidder(FULL, (x, b) -> x.unit(b, 0), NONE);
    }

    // ---- 24: pays

    private static void promise24_byEachKind() {
        Edges.row(RISING, (x, kind) -> x.pays(0, kind), 7, 10, 15, 7, NONE);
        Edges.row(RISING, (x, kind) -> x.pays(2, kind), 5, 5, 7, 5, NONE);
        Edges.row(TIED, (x, kind) -> x.pays(0, kind), 5, 10, 10, 5, NONE);
    }

    private static void promise24_withoutUnits() {
        Edges.row(ONE_TIE, (x, kind) -> x.pays(1, kind), 0, 0, 0, 0, NONE);
    }

    private static void promise24_ofEightFullBidders() {
        // The others would have 28 of 30 by 98 90 80 70, and two of 60.
        int others = 7 * (98 + 90 + 80 + 70) + 2 * 60;
        int have = 7 * (98 + 90 + 80) + 5 * 70;
        Edges.row(FULL, (x, kind) -> x.pays(0, kind), 60 + 60 + 70 + 70, 280, 338, others - have, NONE);
    }

    private static void promise24_noSuchKind() {
        Edges.noSuchKind(RISING, (x, kind) -> x.pays(0, kind), NONE);
    }

    private static void promise24_noSuchBidder() {
        Edges.noSuchBidder(RISING, (x, b) -> x.pays(b, 0), NONE);
        Edges.noSuchBidder(NEW, (x, b) -> x.pays(b, 3), NONE);
        Edges.noSuchBidder(FULL, (x, b) -> x.pays(b, 3), NONE);
        Edges.refused(NEW, x -> x.pays(0, 4), NONE);
    }

    // ---- 25: gain

    private static void promise25_byEachKind() {
        Edges.row(RISING, (x, kind) -> x.gain(0, kind), 8, 5, 0, 8, NO_GAIN);
    }

    private static void promise25_withoutUnits() {
        Edges.row(ONE_TIE, (x, kind) -> x.gain(1, kind), 0, 0, 0, 0, NO_GAIN);
    }

    private static void promise25_theGreatest() {
        Edges.answers("supply 30;reserve 0;bidder 99 99 99 99 99 99 99 99;", x -> x.gain(0, 0), 792);
    }

    private static void promise25_noSuchKind() {
        Edges.noSuchKind(RISING, (x, kind) -> x.gain(0, kind), NO_GAIN);
    }

    private static void promise25_noSuchBidder() {
        Edges.noSuchBidder(RISING, (x, b) -> x.gain(b, 0), NO_GAIN);
        Edges.noSuchBidder(NEW, (x, b) -> x.gain(b, 0), NO_GAIN);
        Edges.noSuchBidder(FULL, (x, b) -> x.gain(b, 2), NO_GAIN);
    }

    // ---- 26: at

    private static void promise26_atPrice0And99() {
        Edges.row(RISING, (x, what) -> x.at(0, 0, what), 3, 3, 0, 0, NONE);
        Edges.row(RISING, (x, what) -> x.at(0, 99, what), 0, 0, 4, 2, NONE);
    }

    private static void promise26_otherPrices() {
        for (int what = 0; what < 4; what++) {
            int asked = what;
            Edges.outside(RISING, 0, 99, (x, price) -> x.at(0, price, asked), NONE);
        }
    }

    private static void promise26_otherWhats() {
        Edges.outside(RISING, 0, 3, (x, what) -> x.at(0, 5, what), NONE);
    }

    private static void promise26_noSuchBidder() {
        for (int what = 0; what < 4; what++) {
            int asked = what;
            Edges.noSuchBidder(RISING, (x, b) -> x.at(b, 5, asked), NONE);
        }
        Edges.noSuchBidder(NEW, (x, b) -> x.at(b, 5, 2), NONE);
        Edges.noSuchBidder(FULL, (x, b) -> x.at(b, 5, 2), NONE);
    }

    private static void promise26_wantsAndTakesAtAValue() {
        Edges.row(RISING, (x, what) -> x.at(0, 6, what), 1, 2);
        Edges.row(RISING, (x, what) -> x.at(0, 7, what), 1, 1);
    }

    private static void promise26_wantsAndTakesAreTheCapAtMost() {
        Edges.row(SPARE, (x, what) -> x.at(0, 0, what), 2, 2);
    }

    private static void promise26_freeIs0AtLeast() {
        Edges.answers("supply 1;reserve 0;bidder;bidder 5 5 5;", x -> x.at(0, 0, 2), 0);
    }

    private static void promise26_freeIsWithoutWhatItWantsItself() {
        Edges.row(RISING, (x, b) -> x.at(b, 5, 2), 2, 1, 1, NONE);
        Edges.row(RISING, (x, b) -> x.at(b, 4, 2), 1, 1, 0, NONE);
        Edges.answers(NEW + "bidder 5 5 5;", x -> x.at(0, 0, 2), 10);
    }

    private static void promise26_freeIsAllWhereNobodyElseWants() {
        Edges.answers("supply 30;reserve 0;bidder;", x -> x.at(0, 0, 2), 30);
        Edges.answers("supply 1;reserve 0;bidder;bidder 5 5 5;", x -> x.at(0, 5, 2), 1);
        Edges.answers("supply 1;reserve 0;bidder;bidder 5 5 5;", x -> x.at(0, 4, 2), 0);
    }

    private static void promise26_freeBelowTheReserveIsByWantsThere() {
        Edges.answers(SPARE, x -> x.at(2, 1, 2), 6 - 2 - 1);
        Edges.answers(SPARE, x -> x.at(2, 2, 2), 6 - 2);
    }

    private static void promise26_clinchedBelowTheReserveIs0() {
        Edges.answers(SPARE, x -> x.at(0, 2, 3), 0);
        Edges.answers(SPARE, x -> x.at(0, 0, 3), 0);
    }

    private static void promise26_clinchedAtTheReserve() {
        Edges.answers(SPARE, x -> x.at(0, 3, 3), 2);
    }

    private static void promise26_clinchedOneAheadOfAPriceAndAtIt() {
        Edges.answers(RISING, x -> x.at(0, 1, 3), 0);
        Edges.answers(RISING, x -> x.at(0, 2, 3), 1);
        Edges.answers(RISING, x -> x.at(0, 4, 3), 1);
    }

    private static void promise26_clinchedAtTheEnd() {
        Edges.answers(RISING, x -> x.at(0, 5, 3), 2);
    }

    private static void promise26_clinchedBehindTheEnd() {
        Edges.answers(RISING, x -> x.at(0, 6, 3), 2);
        Edges.answers(RISING, x -> x.at(0, 99, 3), 2);
    }

    private static void promise26_clinchedWithoutWhatIsGotRoundByRound() {
        Edges.answers(TIED, x -> x.at(0, 5, 3), 1);
        Edges.answers(TIED, x -> x.at(0, 99, 3), 1);
        Edges.answers(ONE_TIE, x -> x.at(0, 99, 3), 0);
    }

    // ---- 27: result

    private static void promise27_ofANewObject() {
        Edges.row(NEW, (x, what) -> x.result(what), 0, 0, 10, 0, 0, 0, 0, 0, NOTHING, NOTHING, NONE);
    }

    private static void promise27_ofTheClockAlone() {
        Edges.row(RISING, (x, what) -> x.result(what), 5, 4, 0, 4, 3, 30, 30, 3, 5, 2, NONE);
    }

    private static void promise27_ofRoundsAlone() {
        Edges.row(ONE_TIE, (x, what) -> x.result(what), 5, 1, 0, 0, 1, 5, 5, 0, 5, 5, NONE);
    }

    private static void promise27_ofBoth() {
        Edges.row(TIED, (x, what) -> x.result(what), 5, 3, 0, 2, 2, 15, 15, 1, 5, 0, NONE);
    }

    private static void promise27_withUnsoldOnes() {
        Edges.row(SPARE, (x, what) -> x.result(what), 3, 2, 4, 2, 1, 13, 25, 1, 3, 3, NONE);
    }

    private static void promise27_ofEightFullBidders() {
        int worth = 8 * (98 + 90 + 80) + 6 * 70;
        Edges.row(FULL, (x, what) -> x.result(what), 70, 30, 0, 24, 8, worth, worth, 2, 70, 60, NONE);
    }

    private static void promise27_noPriceWhereNothingIsSold() {
        Edges.row("supply 2;reserve 9;bidder 8;", (x, what) -> x.result(what), 9, 0, 2, 0, 0, 0, 18, 0, NOTHING, NOTHING);
    }

    private static void promise27_aGreatestPriceOf0() {
        Edges.answers(NEW + "bidder 5;", x -> x.result(8), 0);
        Edges.answers(NEW + "bidder 5;", x -> x.result(9), 0);
    }

    private static void promise27_noneForOthers() {
        Edges.outside(RISING, 0, 9, (x, what) -> x.result(what), NONE);
        Edges.outside(NEW, 0, 9, (x, what) -> x.result(what), NONE);
    }

    // ---- 28: paid

    private static void promise28_byEachKind() {
        Edges.row(RISING, (x, kind) -> x.paid(kind), 16, 20, 30, 16, NONE);
    }

    private static void promise28_byNobody() {
        Edges.row(NEW, (x, kind) -> x.paid(kind), 0, 0, 0, 0, NONE);
    }

    private static void promise28_ofEightFullBidders() {
        int clinched = 16 * 60 + 14 * 70;
        Edges.row(FULL, (x, kind) -> x.paid(kind), clinched, 30 * 70, 8 * (98 + 90 + 80) + 6 * 70, clinched, NONE);
    }

    private static void promise28_noSuchKind() {
        Edges.noSuchKind(RISING, (x, kind) -> x.paid(kind), NONE);
        Edges.noSuchKind(NEW, (x, kind) -> x.paid(kind), NONE);
    }

    // ---- 29: wanted

    private static void promise29_at0And99() {
        Edges.answers(RISING, x -> x.wanted(0), 7);
        Edges.answers(RISING, x -> x.wanted(99), 0);
        Edges.answers(NEW + "bidder 99 0;", x -> x.wanted(0), 1);
        Edges.answers(NEW + "bidder 99 0;", x -> x.wanted(98), 1);
        Edges.answers(NEW + "bidder 99 0;", x -> x.wanted(99), 0);
    }

    private static void promise29_ofNobody() {
        Edges.answers(NEW, x -> x.wanted(0), 0);
    }

    private static void promise29_ofAllByTheirCaps() {
        Edges.answers(FULL, x -> x.wanted(0), 56);
    }

    private static void promise29_belowTheReserveToo() {
        Edges.answers(SPARE, x -> x.wanted(1), 3);
    }

    private static void promise29_anotherPrice() {
        Edges.outside(RISING, 0, 99, (x, price) -> x.wanted(price), NONE);
    }

    // ---- 30: sold

    private static void promise30_eachUnit() {
        Edges.row(RISING, (x, k) -> x.sold(k, 0), 0, 1, 0, 2, NONE);
        Edges.row(RISING, (x, k) -> x.sold(k, 1), 2, 4, 5, 5, NONE);
    }

    private static void promise30_atOnePriceByNumbersAllThatOneClinches() {
        Edges.row("supply 5;reserve 2;bidder 9 9;bidder 5;bidder 7 7;", (x, k) -> x.sold(k, 0), 0, 0, 1, 2, 2, NONE);
    }

    private static void promise30_roundByRoundBehindThese() {
        Edges.row(TIED, (x, k) -> x.sold(k, 0), 0, 1, 0, NONE);
        Edges.row(TIED, (x, k) -> x.sold(k, 1), 0, 0, 5, NONE);
        // The end is 5: there the second clinches, then the first gets one.
        Edges.row("supply 2;reserve 0;bidder 5;bidder 6;bidder 5;", (x, k) -> x.sold(k, 0), 1, 0, NONE);
    }

    private static void promise30_roundsOneByOne() {
        Edges.row("supply 4;reserve 0;bidder 5 5;bidder 5 5;bidder 5 5;", (x, k) -> x.sold(k, 0), 0, 1, 2, 0, NONE);
    }

    private static void promise30_thirtyUnits() {
        Edges.answers(FULL, x -> x.sold(0, 0), 0);
        Edges.answers(FULL, x -> x.sold(15, 0), 7);
        Edges.answers(FULL, x -> x.sold(15, 1), 60);
        Edges.answers(FULL, x -> x.sold(29, 0), 5);
        Edges.answers(FULL, x -> x.sold(29, 1), 70);
        Edges.refused(FULL, x -> x.sold(30, 0), NONE);
    }

    private static void promise30_noSuchUnit() {
        Edges.outside(RISING, 0, 3, (x, k) -> x.sold(k, 0), NONE);
        Edges.outside(RISING, 0, 3, (x, k) -> x.sold(k, 1), NONE);
        Edges.outside(FULL, 0, 29, (x, k) -> x.sold(k, 1), NONE);
        Edges.refused(NEW, x -> x.sold(0, 0), NONE);
    }

    private static void promise30_noSuchWhat() {
        Edges.outside(RISING, 0, 1, (x, what) -> x.sold(0, what), NONE);
    }

    // ---- 31: worth

    private static void promise31_0And30UnitsStand() {
        Edges.answers(RISING, x -> x.worth(7, 0), 0);
        Edges.answers(RISING, x -> x.worth(7, 30), 9 + 8 + 7 + 6 + 5 + 4 + 2 + 23);
    }

    private static void promise31_theEmptySet() {
        Edges.answers(RISING, x -> x.worth(0, 30), 30);
        Edges.answers(NEW, x -> x.worth(0, 30), 0);
    }

    private static void promise31_eachBit() {
        Edges.answers(RISING, x -> x.worth(1, 1), 9);
        Edges.answers(RISING, x -> x.worth(2, 1), 8);
        Edges.answers(RISING, x -> x.worth(4, 1), 7);
        Edges.answers(RISING, x -> x.worth(6, 2), 15);
    }

    private static void promise31_allOfEight() {
        Edges.answers(Edges.EIGHT, x -> x.worth(255, 30), 7 + 5 + 28);
        Edges.answers(Edges.EIGHT, x -> x.worth(128, 30), 4);
    }

    private static void promise31_noSuchUnits() {
        Edges.outside(RISING, 0, 30, (x, units) -> x.worth(7, units), NONE);
    }

    private static void promise31_noSuchSet() {
        Edges.outside(RISING, 0, 7, (x, set) -> x.worth(set, 4), NONE);
        Edges.outside(NEW, 0, 0, (x, set) -> x.worth(set, 4), NONE);
        Edges.outside(Edges.EIGHT, 0, 255, (x, set) -> x.worth(set, 4), NONE);
        Edges.refused(RISING, x -> x.worth(15, 4), NONE);
        Edges.refused(RISING, x -> x.worth(1 << 30, 4), NONE);
    }

    // ---- 32: clinch

    private static void promise32_eachPrice() {
        Edges.row(RISING, (x, k) -> x.clinch(0, k, 0), 2, 5, NONE);
        Edges.row(RISING, (x, k) -> x.clinch(0, k, 1), 1, 1, NONE);
    }

    private static void promise32_severalAtOnePrice() {
        Edges.row(FULL, (x, k) -> x.clinch(0, k, 0), 60, 70, NONE);
        Edges.row(FULL, (x, k) -> x.clinch(0, k, 1), 2, 1, NONE);
        Edges.row("supply 30;reserve 0;bidder 9 9 9 9 9 9 9 9;", (x, k) -> x.clinch(0, k, 1), 8, NONE);
    }

    private static void promise32_aPriceOf0() {
        Edges.row(TIED, (x, k) -> x.clinch(0, k, 0), 0, NONE);
    }

    private static void promise32_roundByRoundIsNotClinched() {
        Edges.refused(ONE_TIE, x -> x.clinch(0, 0, 0), NONE);
        Edges.row(TIED, (x, k) -> x.clinch(0, k, 1), 1, NONE);
    }

    private static void promise32_withoutUnits() {
        Edges.refused(ONE_TIE, x -> x.clinch(1, 0, 0), NONE);
        Edges.refused(ONE_TIE, x -> x.clinch(1, 0, 1), NONE);
    }

    private static void promise32_noSuchPrice() {
        Edges.outside(RISING, 0, 1, (x, k) -> x.clinch(0, k, 0), NONE);
        Edges.outside(RISING, 0, 1, (x, k) -> x.clinch(0, k, 1), NONE);
    }

    private static void promise32_noSuchWhat() {
        Edges.outside(RISING, 0, 1, (x, what) -> x.clinch(0, 0, what), NONE);
    }

    private static void promise32_noSuchBidder() {
        Edges.noSuchBidder(RISING, (x, b) -> x.clinch(b, 0, 0), NONE);
        Edges.noSuchBidder(NEW, (x, b) -> x.clinch(b, 0, 0), NONE);
        Edges.noSuchBidder(FULL, (x, b) -> x.clinch(b, 0, 1), NONE);
    }

    // ---- 33: dearest

    private static void promise33_theFirstAndTheLast() {
        Edges.answers(RISING, x -> x.dearest(0), 0);
        Edges.answers("supply 3;reserve 0;bidder 1;bidder 2;bidder 3;", x -> x.dearest(2), 2);
    }

    private static void promise33_ofSeveralTheFirst() {
        Edges.answers("supply 9;reserve 0;bidder 1;bidder 7;bidder 7;", x -> x.dearest(2), 1);
    }

    private static void promise33_whereNobodyPaysTheFirst() {
        Edges.row(NEW + "bidder;bidder;", (x, kind) -> x.dearest(kind), 0, 0, 0, 0, NONE);
    }

    private static void promise33_thereAreNone() {
        Edges.row(NEW, (x, kind) -> x.dearest(kind), NOTHING, NOTHING, NOTHING, NOTHING, NONE);
    }

    private static void promise33_noSuchKind() {
        Edges.noSuchKind(RISING, (x, kind) -> x.dearest(kind), NONE);
        Edges.noSuchKind(NEW, (x, kind) -> x.dearest(kind), NONE);
    }

    // ---- 34: perUnit

    private static void promise34_cut() {
        Edges.row(RISING, (x, kind) -> x.perUnit(0, kind), 3, 5, 7, 3, NONE);
    }

    private static void promise34_ofOneUnit() {
        Edges.row(RISING, (x, kind) -> x.perUnit(2, kind), 5, 5, 7, 5, NONE);
    }

    private static void promise34_for0() {
        Edges.answers(TIED, x -> x.perUnit(1, 0), 0);
    }

    private static void promise34_itHasNone() {
        Edges.row(ONE_TIE, (x, kind) -> x.perUnit(1, kind), NOTHING, NOTHING, NOTHING, NOTHING, NONE);
    }

    private static void promise34_noSuchKind() {
        Edges.noSuchKind(RISING, (x, kind) -> x.perUnit(0, kind), NONE);
        Edges.noSuchKind(ONE_TIE, (x, kind) -> x.perUnit(1, kind), NONE);
    }

    private static void promise34_noSuchBidder() {
        Edges.noSuchBidder(RISING, (x, b) -> x.perUnit(b, 0), NONE);
        Edges.noSuchBidder(NEW, (x, b) -> x.perUnit(b, 0), NONE);
        Edges.noSuchBidder(FULL, (x, b) -> x.perUnit(b, 0), NONE);
    }

    // ---- 35: alike

    private static void promise35_itself() {
        Edges.answers(RISING, x -> x.alike(2, 2), 1);
    }

    private static void promise35_withoutValues() {
        Edges.answers(NEW + "bidder;bidder;bidder cap 7;", x -> x.alike(0, 1), 1);
        Edges.answers(NEW + "bidder;bidder;bidder cap 7;", x -> x.alike(0, 2), 0);
    }

    private static void promise35_ofEightValues() {
        Edges.answers(FULL, x -> x.alike(0, 7), 1);
    }

    private static void promise35_theFirstValueDiffers() {
        Edges.answers(NEW + "bidder 9 1;bidder 8 1;", x -> x.alike(0, 1), 0);
    }

    private static void promise35_theLastValueDiffers() {
        Edges.answers(Edges.EIGHT_VALUES + "bidder 80 70 60 50 40 30 20 9;", x -> x.alike(0, 1), 0);
    }

    private static void promise35_oneHasAValueMore() {
        Edges.answers(NEW + "bidder 9 8;bidder 9;", x -> x.alike(0, 1), 0);
        Edges.answers(NEW + "bidder 9 8;bidder 9;", x -> x.alike(1, 0), 0);
        Edges.answers(NEW + "bidder 0;bidder;", x -> x.alike(0, 1), 0);
    }

    private static void promise35_theCapsDiffer() {
        Edges.answers(NEW + "bidder 9 cap 1;bidder 9 cap 2;", x -> x.alike(0, 1), 0);
    }

    private static void promise35_noSuchOnes() {
        Edges.noSuchBidder(RISING, (x, b) -> x.alike(b, 0), NONE);
        Edges.noSuchBidder(RISING, (x, b) -> x.alike(0, b), NONE);
        Edges.noSuchBidder(RISING, (x, b) -> x.alike(b, b), NONE);
        Edges.noSuchBidder(FULL, (x, b) -> x.alike(0, b), NONE);
    }

    // ---- 36: ranked

    private static void promise36_eachValue() {
        Edges.row(RISING, (x, k) -> x.ranked(k, 1), 9, 8, 7, 6, 5, 4, 2, NONE);
        Edges.row(RISING, (x, k) -> x.ranked(k, 0), 0, 1, 2, 0, 1, 0, 2, NONE);
    }

    private static void promise36_alikeOnesByBidders() {
        Edges.row(NEW + "bidder 3 3;bidder 7 3;", (x, k) -> x.ranked(k, 0), 1, 0, 0, 1, NONE);
    }

    private static void promise36_beyondTheCapToo() {
        Edges.row(NEW + "bidder 3 1 cap 0;", (x, k) -> x.ranked(k, 1), 3, 1, NONE);
    }

    private static void promise36_aValueOf0() {
        Edges.row("supply 1;reserve 50;bidder 0;", (x, k) -> x.ranked(k, 1), 0, NONE);
        Edges.row("supply 1;reserve 50;bidder 0;", (x, k) -> x.ranked(k, 0), 0, NONE);
    }

    private static void promise36_theLastOf64() {
        Edges.answers(FULL, x -> x.ranked(0, 0), 0);
        Edges.answers(FULL, x -> x.ranked(7, 0), 7);
        Edges.answers(FULL, x -> x.ranked(8, 1), 90);
        Edges.answers(FULL, x -> x.ranked(63, 0), 7);
        Edges.answers(FULL, x -> x.ranked(63, 1), 30);
        Edges.refused(FULL, x -> x.ranked(64, 0), NONE);
    }

    private static void promise36_noSuchValue() {
        Edges.outside(RISING, 0, 6, (x, k) -> x.ranked(k, 0), NONE);
        Edges.outside(RISING, 0, 6, (x, k) -> x.ranked(k, 1), NONE);
        Edges.refused(NEW + "bidder;", x -> x.ranked(0, 1), NONE);
    }

    private static void promise36_noSuchWhat() {
        Edges.outside(RISING, 0, 1, (x, what) -> x.ranked(0, what), NONE);
    }

    // ---- 37: priceFor

    private static void promise37_eachNumber() {
        Edges.row(RISING, (x, units) -> x.priceFor(units), 9, 8, 7, 6, 5, 4, 2, 0, 0);
    }

    private static void promise37_0UnitsAt99() {
        Edges.answers(NEW + "bidder 99;", x -> x.priceFor(0), 99);
        Edges.answers(NEW + "bidder 98;", x -> x.priceFor(0), 98);
    }

    private static void promise37_ofNobody() {
        Edges.answers(NEW, x -> x.priceFor(0), 0);
    }

    private static void promise37_anyNumberFrom0On() {
        Edges.answers(FULL, x -> x.priceFor(BIG), 0);
        Edges.answers(FULL, x -> x.priceFor(55), 40);
        Edges.answers(FULL, x -> x.priceFor(56), 0);
    }

    private static void promise37_theReserveIsNotLookedAt() {
        Edges.answers("supply 1;reserve 50;bidder 3;", x -> x.priceFor(0), 3);
    }

    private static void promise37_below0() {
        Edges.refused(RISING, x -> x.priceFor(-1), NONE);
        Edges.refused(RISING, x -> x.priceFor(SMALL), NONE);
        Edges.refused(NEW, x -> x.priceFor(-1), NONE);
    }

    // ---- 38: step

    private static void promise38_eachStep() {
        Edges.row(RISING, (x, k) -> x.step(k, 0), 2, 4, 5, 6, 7, 8, 9, NONE);
        Edges.row(RISING, (x, k) -> x.step(k, 1), 6, 5, 4, 3, 2, 1, 0, NONE);
        Edges.row(RISING, (x, k) -> x.step(k, 2), 3, 3, 3, 3, 2, 1, 0, NONE);
    }

    private static void promise38_at0() {
        Edges.row(NEW + "bidder 4 0;", (x, k) -> x.step(k, 0), 0, 4, NONE);
        Edges.row(NEW + "bidder 4 0;", (x, k) -> x.step(k, 1), 1, 0, NONE);
    }

    private static void promise38_at0CapsAreLookedAt() {
        Edges.row(NEW + "bidder 4 0 cap 1;", (x, k) -> x.step(k, 0), 4, NONE);
        Edges.row(NEW + "bidder 4 0 cap 0;", (x, k) -> x.step(k, 0), NONE);
    }

    private static void promise38_at99() {
        Edges.row(NEW + "bidder 99;", (x, k) -> x.step(k, 0), 99, NONE);
    }

    private static void promise38_valuesBeyondTheCapMakeNoStep() {
        Edges.row(NEW + "bidder 9 5 3 cap 1;", (x, k) -> x.step(k, 0), 9, NONE);
    }

    private static void promise38_severalAtOnePriceAreOneStep() {
        Edges.row(NEW + "bidder 5 5;bidder 5;", (x, k) -> x.step(k, 0), 5, NONE);
        Edges.row(NEW + "bidder 5 5;bidder 5;", (x, k) -> x.step(k, 1), 0, NONE);
    }

    private static void promise38_ofNobody() {
        Edges.refused(NEW, x -> x.step(0, 0), NONE);
        Edges.refused(NEW + "bidder;", x -> x.step(0, 0), NONE);
    }

    private static void promise38_noSuchStep() {
        Edges.outside(RISING, 0, 6, (x, k) -> x.step(k, 0), NONE);
        Edges.outside(RISING, 0, 6, (x, k) -> x.step(k, 1), NONE);
        Edges.outside(RISING, 0, 6, (x, k) -> x.step(k, 2), NONE);
    }

    private static void promise38_noSuchWhat() {
        Edges.outside(RISING, 0, 2, (x, what) -> x.step(0, what), NONE);
    }

    // ---- 39: envies

    private static void promise39_byEachKind() {
        // By own values: as the second 9 - 8, as itself 0.
        Edges.row(RISING, (x, kind) -> x.envies(0, kind), NOTHING, NOTHING, 1, NOTHING, NONE);
        // 8 - 4; as the first 13 - 7.
        Edges.row(RISING, (x, kind) -> x.envies(1, kind), 0, NOTHING, 2, 0, NONE);
    }

    private static void promise39_asGreatAGainIsNotEnvied() {
        // 7 - 5; as the first 9 - 7; as the second 7 - 4.
        Edges.answers(RISING, x -> x.envies(2, 0), 1);
    }

    private static void promise39_theFirstOfSeveral() {
        Edges.answers("supply 3;reserve 0;bidder 9;bidder 4;bidder 3;", x -> x.envies(0, 2), 1);
        Edges.answers("supply 3;reserve 0;bidder 4;bidder 3;bidder 9;", x -> x.envies(2, 2), 0);
    }

    private static void promise39_asManyAsItsCapLetsItUse() {
        // The first has three for 5, the second one for 5.
        Edges.answers("supply 4;reserve 0;bidder 9 9 9;bidder 9 9 9 cap 1;bidder 5;", x -> x.envies(1, 0), NOTHING);
    }

    private static void promise39_asManyAsItsValuesLetItUse() {
        Edges.answers("supply 4;reserve 0;bidder 9 9 9;bidder 9;bidder 5;", x -> x.envies(1, 0), NOTHING);
    }

    private static void promise39_withoutUnits() {
        // The third would pay 5 for one unit that is worth 5 to it.
        Edges.answers("supply 2;reserve 0;bidder 9;bidder 9;bidder 5;", x -> x.envies(2, 0), NOTHING);
        // The second got none of what the first pays 0 for.
        Edges.answers("supply 1;reserve 0;bidder 0;bidder 0;", x -> x.envies(1, 0), NOTHING);
    }

    private static void promise39_withoutValues() {
        Edges.row(SPARE, (x, kind) -> x.envies(2, kind), NOTHING, NOTHING, NOTHING, NOTHING, NONE);
    }

    private static void promise39_alone() {
        Edges.row(NEW + "bidder 5;", (x, kind) -> x.envies(0, kind), NOTHING, NOTHING, NOTHING, NOTHING, NONE);
    }

    private static void promise39_noSuchKind() {
        Edges.noSuchKind(RISING, (x, kind) -> x.envies(0, kind), NONE);
    }

    private static void promise39_noSuchBidder() {
        Edges.noSuchBidder(RISING, (x, b) -> x.envies(b, 0), NONE);
        Edges.noSuchBidder(NEW, (x, b) -> x.envies(b, 0), NONE);
        Edges.noSuchBidder(FULL, (x, b) -> x.envies(b, 2), NONE);
    }

    // ---- 40: blocks

    private static void promise40_worthAsMuchIsNotMore() {
        // All pay 16; the first two gain 12: they are worth 9 + 8 + 6 + 5.
        Edges.row(RISING, (x, kind) -> x.blocks(kind), NOTHING, NOTHING, NOTHING, NOTHING, NONE);
    }

    private static void promise40_reserveForEachUnsold() {
        // The first is worth 9 + 4 + 4 * 3; all pay 6 and it gains 7, four are unsold.
        Edges.row(SPARE, (x, kind) -> x.blocks(kind), NOTHING, NOTHING, NOTHING, NOTHING, NONE);
        Edges.row("supply 30;reserve 99;bidder 5;", (x, kind) -> x.blocks(kind), NOTHING, NOTHING, NOTHING, NOTHING);
    }

    private static void promise40_ofNobody() {
        Edges.row(NEW, (x, kind) -> x.blocks(kind), NOTHING, NOTHING, NOTHING, NOTHING, NONE);
    }

    private static void promise40_ofEightFullBidders() {
        Edges.row(FULL, (x, kind) -> x.blocks(kind), NOTHING, NOTHING, NOTHING, NOTHING, NONE);
    }

    private static void promise40_noSuchKind() {
        Edges.noSuchKind(RISING, (x, kind) -> x.blocks(kind), NONE);
        Edges.noSuchKind(NEW, (x, kind) -> x.blocks(kind), NONE);
    }

    // ---- 41: record

    private static ClinchClock held(int times) {
        ClinchClock x = Edges.clock(RISING);
        for (int i = 0; i < times; i++) {
            x.hold(i % 4);
        }
        return x;
    }

    private static void promise41_ofNone() {
        Edges.due(new ClinchClock().record(0, 0), NONE);
        Edges.due(Edges.clock(RISING).record(0, 3), NONE);
    }

    private static void promise41_0IsTheLatest() {
        int[][] due = {{1, 3, 3, 1}, {5, 4, 16, 0}};
        for (int k = 0; k < 2; k++) {
            for (int what = 0; what < 4; what++) {
                Edges.due(held(2).record(k, what), due[k][what]);
            }
        }
    }

    private static void promise41_noSuchLine() {
        int[] lines = {-1, 2, 7, 8, BIG, SMALL};
        for (int k : lines) {
            Edges.due(held(2).record(k, 0), NONE);
            Edges.due(held(2).record(k, 3), NONE);
        }
    }

    private static void promise41_theEighthIsTheLast() {
        Edges.due(held(8).record(7, 2), 16);
        Edges.due(held(8).record(8, 2), NONE);
        Edges.due(held(9).record(7, 2), 3);
        Edges.due(held(9).record(8, 2), NONE);
    }

    private static void promise41_noSuchWhat() {
        int[] whats = {-1, 4, BIG, SMALL};
        for (int what : whats) {
            Edges.due(held(2).record(0, what), NONE);
            Edges.due(held(2).record(1, what), NONE);
        }
    }

    private static void promise41_nothingHappens() {
        Edges.refused(RISING, x -> x.record(8, 0), NONE);
    }
}
