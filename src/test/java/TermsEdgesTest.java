/** The edges that the document's section 'Terms' names: I. what is told, II. THE CLOCK, III. ACTS and WERE. */
public final class TermsEdgesTest {
    private static final int NONE = Edges.NONE;
    private static final int NOTHING = Edges.NOTHING;
    private static final String NEW = Edges.EMPTY;

    private TermsEdgesTest() {
    }

    public static void main(String[] args) {
        Edges.run(TermsEdgesTest.class, 1, 0);
    }

    // ---- SUPPLY, RESERVE, BIDDERS, VALUES, CAP

    private static void term_supplyIs10AtFirst() {
        Edges.due(new ClinchClock().count(1), 10);
    }

    private static void term_supplyOf1Stands() {
        Edges.stands("supply 1;", "supply 1;reserve 0;");
        Edges.acts(NEW, x -> x.supply(1), 10, "supply 1;reserve 0;");
    }

    private static void term_supplyOf30Stands() {
        Edges.stands("supply 30;", "supply 30;reserve 0;");
        Edges.acts(NEW, x -> x.supply(30), 10, "supply 30;reserve 0;");
    }

    private static void term_supplyOf0IsOutOfBounds() {
        Edges.fault("supply 0;", 7);
        Edges.refused(NEW, x -> x.supply(0), NONE);
    }

    private static void term_supplyOf31IsOutOfBounds() {
        Edges.fault("supply 31;", 7);
        Edges.refused(NEW, x -> x.supply(31), NONE);
    }

    private static void term_reserveIs0AtFirst() {
        Edges.due(new ClinchClock().count(2), 0);
    }

    private static void term_reserveOf0Stands() {
        Edges.stands("reserve 0;", NEW);
        Edges.acts("supply 10;reserve 5;", x -> x.reserve(0), 5, NEW);
    }

    private static void term_reserveOf99Stands() {
        Edges.stands("reserve 99;", "supply 10;reserve 99;");
        Edges.acts(NEW, x -> x.reserve(99), 0, "supply 10;reserve 99;");
    }

    private static void term_reserveOf100IsOutOfBounds() {
        Edges.fault("reserve 100;", 8);
        Edges.refused(NEW, x -> x.reserve(100), NONE);
    }

    private static void term_thereMayBeNoBidders() {
        Edges.stands("supply 10;reserve 0;", NEW);
        Edges.due(new ClinchClock().count(0), 0);
    }

    private static void term_eightBiddersStand() {
        Edges.stands("bidder;".repeat(8), NEW + "bidder;".repeat(8));
        Edges.acts(Edges.SEVEN, x -> x.join(), 7, Edges.SEVEN + "bidder;");
    }

    private static void term_aNinthBidderNeverComes() {
        Edges.fault("bidder;".repeat(9), 56);
        Edges.refused(Edges.EIGHT, x -> x.join(), NONE);
        Edges.refused(Edges.EIGHT, x -> x.copy(0), NONE);
        Edges.refused(Edges.EIGHT, x -> x.split(0, 1), NONE);
    }

    private static void term_aBidderMayHaveNoValues() {
        Edges.stands("bidder;", NEW + "bidder;");
        Edges.acts(NEW + "bidder 4;", x -> x.without(0, 0), 0, NEW + "bidder;");
    }

    private static void term_eightValuesStand() {
        Edges.stands("bidder 8 7 6 5 4 3 2 1;", NEW + "bidder 8 7 6 5 4 3 2 1;");
        Edges.acts(NEW + "bidder 8 7 6 5 4 3 2;", x -> x.value(0, 1), 8, NEW + "bidder 8 7 6 5 4 3 2 1;");
    }

    private static void term_aNinthValueNeverComes() {
        Edges.fault("bidder 8 7 6 5 4 3 2 1 0;", 23);
        Edges.refused(Edges.EIGHT_VALUES, x -> x.value(0, 5), NONE);
    }

    private static void term_valuesOf0And99Stand() {
        Edges.stands("bidder 99 0;", NEW + "bidder 99 0;");
        Edges.acts(NEW + "bidder 5;", x -> x.value(0, 0), 2, NEW + "bidder 5 0;");
        Edges.acts(NEW + "bidder 5;", x -> x.value(0, 99), 2, NEW + "bidder 99 5;");
    }

    private static void term_aValueOf100IsOutOfBounds() {
        Edges.fault("bidder 100;", 7);
        Edges.refused(NEW + "bidder 5;", x -> x.value(0, 100), NONE);
        Edges.refused(NEW + "bidder 5;", x -> x.change(0, 0, 100), NONE);
        Edges.acts(NEW + "bidder 98;", x -> x.shade(0, 2), 1, NEW + "bidder 99;");
    }

    private static void term_aValueBelow0IsOutOfBounds() {
        Edges.fault("bidder -1;", 7);
        Edges.refused(NEW + "bidder 5;", x -> x.value(0, -1), NONE);
        Edges.refused(NEW + "bidder 5;", x -> x.change(0, 0, -1), NONE);
        Edges.acts(NEW + "bidder 1;", x -> x.shade(0, -2), 1, NEW + "bidder 0;");
    }

    private static void term_aValueLikeTheOneAheadStands() {
        Edges.stands("bidder 5 5 5;", NEW + "bidder 5 5 5;");
    }

    private static void term_noValueIsAboveTheOneAhead() {
        Edges.fault("bidder 5 6;", 9);
        Edges.acts(NEW + "bidder 5;", x -> x.value(0, 6), 2, NEW + "bidder 6 5;");
        Edges.acts(NEW + "bidder 9 5;", x -> x.change(0, 0, 4), 9, NEW + "bidder 5 4;");
    }

    private static void term_capOf0Stands() {
        Edges.stands("bidder cap 0;", NEW + "bidder cap 0;");
        Edges.acts(NEW + "bidder;", x -> x.cap(0, 0), 8, NEW + "bidder cap 0;");
    }

    private static void term_capIs8Without() {
        Edges.stands("bidder 5;", NEW + "bidder 5;");
        Edges.due(Edges.clock("bidder 5;").of(0, 1), 8);
        Edges.stands("bidder 5 cap 8;", NEW + "bidder 5;");
    }

    private static void term_capOf9IsOutOfBounds() {
        Edges.fault("bidder cap 9;", 11);
        Edges.refused(NEW + "bidder;", x -> x.cap(0, 9), NONE);
    }

    // ---- A TEXT

    private static void term_text_nothingStands() {
        Edges.stands("", NEW);
    }

    private static void term_text_blanksAndLineEndsAloneStand() {
        Edges.stands(" ", NEW);
        Edges.stands("\n", NEW);
        Edges.stands(" \n \n", NEW);
    }

    private static void term_text_theLatestSupplyHolds() {
        Edges.stands("supply 3;supply 30;supply 7;", "supply 7;reserve 0;");
    }

    private static void term_text_theLatestReserveHolds() {
        Edges.stands("reserve 9;reserve 99;reserve 0;", NEW);
    }

    private static void term_text_partsComeInAnyOrder() {
        Edges.stands("bidder 4;reserve 2;bidder 6 1;supply 3;", "supply 3;reserve 2;bidder 4;bidder 6 1;");
    }

    private static void term_text_aWordGoesOnAsFarAsItsLetters() {
        Edges.fault("supplys 1;", 0);
        Edges.fault("bidderz;", 0);
        Edges.fault("reservea 1;", 0);
        Edges.fault("biddercap 1;", 0);
        Edges.fault("bidder capa 1;", 7);
        Edges.fault("supplysupply 1;", 0);
    }

    private static void term_text_aWordCutShortCantStand() {
        Edges.fault("sup", 0);
        Edges.fault("suppl 1;", 0);
        Edges.fault("bidde;", 0);
        Edges.fault("reserv 1;", 0);
        Edges.fault("bidder 5 ca 1;", 9);
        Edges.fault(" bid", 1);
    }

    private static void term_text_aWordOfOtherLettersCantStand() {
        Edges.fault("suppla 1;", 0);
        Edges.fault("zupply 1;", 0);
        Edges.fault("a;", 0);
        Edges.fault("z;", 0);
        Edges.fault("bidder 5 cat 1;", 9);
        Edges.fault("bidder 5 zap 1;", 9);
    }

    private static void term_text_bytesNextToLettersAndDigitsAreNone() {
        Edges.fault("`;", 0);
        Edges.fault("{;", 0);
        Edges.fault("supply 1/;", 8);
        Edges.fault("supply 1:;", 8);
        Edges.fault("supply /;", 7);
        Edges.fault("supply :;", 7);
    }

    private static void term_text_greatLettersCantStand() {
        Edges.fault("Supply 1;", 0);
        Edges.fault("bidder 5 Cap 1;", 9);
        Edges.fault("supplY 1;", 0);
    }

    private static void term_text_oneDigitOrTwoStand() {
        Edges.stands("supply 7;reserve 12;bidder 10 9;", "supply 7;reserve 12;bidder 10 9;");
    }

    private static void term_text_0sAheadStand() {
        Edges.stands("supply 07;reserve 00;bidder 05 00 cap 08;", "supply 7;reserve 0;bidder 5 0;");
    }

    private static void term_text_threeDigitsCantStand() {
        Edges.fault("supply 007;", 7);
        Edges.fault("reserve 000;", 8);
        Edges.fault("bidder 9 001;", 9);
        Edges.fault("bidder cap 008;", 11);
        Edges.fault("reserve 12345678901234567890;", 8);
    }

    private static void term_text_threeDigitsHaveTheirFaultAtTheFirst() {
        Edges.fault("supply  \n123;", 9);
    }

    private static void term_text_supplyOutOfBounds() {
        Edges.fault("supply 00;", 7);
        Edges.fault("supply 32;", 7);
        Edges.fault("supply 99;", 7);
    }

    private static void term_text_capOutOfBounds() {
        Edges.fault("bidder 5 cap 10;", 13);
        Edges.fault("bidder 5 cap 99;", 13);
    }

    private static void term_text_aValueByOneAboveTheOneAheadCantStand() {
        Edges.fault("bidder 98 99;", 10);
        Edges.fault("bidder 0 1;", 9);
        Edges.fault("bidder 9 8 9;", 11);
        Edges.fault("bidder 9 10;", 9);
    }

    private static void term_text_theNextBidderBeginsAnew() {
        Edges.stands("bidder 1;bidder 99;", NEW + "bidder 1;bidder 99;");
        Edges.stands("bidder 1 cap 2;bidder 1;", NEW + "bidder 1 cap 2;bidder 1;");
        Edges.stands("bidder 8 7 6 5 4 3 2 1;bidder 8 7 6 5 4 3 2 1;",
            NEW + "bidder 8 7 6 5 4 3 2 1;bidder 8 7 6 5 4 3 2 1;");
    }

    private static void term_text_aNinthValueCantStandWhateverItIs() {
        Edges.fault("bidder 1 1 1 1 1 1 1 1 1;", 23);
        Edges.fault("bidder 1 1 1 1 1 1 1 1 2;", 23);
        Edges.fault("bidder 1 1 1 1 1 1 1 1 100;", 23);
        Edges.fault("bidder 1 1 1 1 1 1 1 1\n\n1;", 24);
    }

    private static void term_text_capStandsBehindEightValues() {
        Edges.stands("bidder 1 1 1 1 1 1 1 1 cap 3;", NEW + "bidder 1 1 1 1 1 1 1 1 cap 3;");
    }

    private static void term_text_aNinthBidderHasItsFaultAtItsWord() {
        Edges.fault("bidder;".repeat(8) + "bidder", 56);
        Edges.fault("bidder;".repeat(8) + " \nbidder 5 6 cap 9;", 58);
    }

    private static void term_text_supplyAndReserveStandBehindEightBidders() {
        Edges.stands("bidder;".repeat(8) + "supply 2;reserve 1;", "supply 2;reserve 1;" + "bidder;".repeat(8));
    }

    private static void term_text_blanksAndLineEndsWhereOneLikes() {
        Edges.stands("  supply \n 3 ;\n\nreserve\n4\n; bidder  9\n\n8  cap \n 2  ; ",
            "supply 3;reserve 4;bidder 9 8 cap 2;");
    }

    private static void term_text_noBlankIsNeededAtASemicolon() {
        Edges.stands("supply 3;reserve 4;bidder;bidder 5;", "supply 3;reserve 4;bidder;bidder 5;");
    }

    private static void term_text_aBlankInAWordCutsIt() {
        Edges.fault("sup ply 3;", 0);
        Edges.fault("bidder 5 c ap 3;", 9);
    }

    private static void term_text_aBlankInANCutsIt() {
        Edges.fault("supply 1 2;", 9);
        Edges.stands("bidder 1 1;", NEW + "bidder 1 1;");
    }

    private static void term_text_otherBytesAreNoBlanks() {
        Edges.fault("\t", 0);
        Edges.fault("supply\t3;", 6);
        Edges.fault("supply 3\r\n;", 8);
        Edges.fault("supply 3;\0", 9);
        Edges.fault("supply 3;\u000b", 9);
        Edges.fault("supply 3;" + (char) 31, 9);
        Edges.fault("supply 3;!", 9);
        Edges.fault("supply 3;" + (char) 160, 9);
    }

    private static void term_text_bytesAbove127CantStand() {
        Edges.fault(String.valueOf((char) 128), 0);
        Edges.fault(String.valueOf((char) 255), 0);
        // 's', '3', ';', ' ', line end with the highest bit.
        Edges.fault((char) (128 + 's') + "upply 3;", 0);
        Edges.fault("supply " + (char) (128 + '3') + ";", 7);
        Edges.fault("supply 3" + (char) (128 + ';'), 8);
        Edges.fault("supply" + (char) (128 + 32) + "3;", 6);
        Edges.fault("supply" + (char) (128 + 10) + "3;", 6);
    }

    private static void term_text_aWordAndNNeedABlank() {
        Edges.fault("supply3;", 6);
        Edges.fault("reserve3;", 7);
        Edges.fault("bidder3;", 6);
        Edges.fault("bidder 5 cap3;", 12);
    }

    private static void term_text_nAndAWordNeedABlank() {
        Edges.fault("bidder 5cap 3;", 8);
        Edges.fault("supply 3reserve 4;", 8);
    }

    private static void term_text_twoWordsNeedABlank() {
        Edges.fault("biddercap 3;", 0);
    }

    private static void term_text_aLineEndIsABlankBetweenTwo() {
        Edges.stands("supply\n3;bidder\n5\n4\ncap\n2;", "supply 3;reserve 0;bidder 5 4 cap 2;");
    }

    private static void term_text_endsTooEarlyAtItsLength() {
        Edges.fault("supply", 6);
        Edges.fault("supply 3", 8);
        Edges.fault("reserve", 7);
        Edges.fault("reserve 30", 10);
        Edges.fault("bidder", 6);
        Edges.fault("bidder 5", 8);
        Edges.fault("bidder 5 4", 10);
        Edges.fault("bidder 5 cap", 12);
        Edges.fault("bidder 5 cap 3", 14);
        Edges.fault("bidder 1 1 1 1 1 1 1 1", 22);
    }

    private static void term_text_endsTooEarlyBehindBlanks() {
        Edges.fault("supply \n", 8);
        Edges.fault("supply 3 \n", 10);
        Edges.fault("bidder ", 7);
        Edges.fault("bidder 5 cap  ", 14);
    }

    private static void term_text_anNOutOfBoundsAheadOfTheEndIsTheFault() {
        Edges.fault("supply 31", 7);
        Edges.fault("bidder 5 6", 9);
    }

    private static void term_text_aSemicolonMoreCantStand() {
        Edges.fault(";", 0);
        Edges.fault("supply 3;;", 9);
        Edges.fault("bidder; ;", 8);
    }

    private static void term_text_aSemicolonTooEarlyCantStand() {
        Edges.fault("supply;", 6);
        Edges.fault("reserve ;", 8);
        Edges.fault("bidder 5 cap;", 12);
        Edges.fault("bidder cap ;", 11);
    }

    private static void term_text_aSemicolonTooFewIsTheNextOnesFault() {
        Edges.fault("supply 3 supply 4;", 9);
        Edges.fault("bidder bidder;", 7);
        Edges.fault("bidder 5 cap 3 bidder;", 15);
    }

    private static void term_text_nCantBegin() {
        Edges.fault("5;", 0);
        Edges.fault("supply 3;5;", 9);
    }

    private static void term_text_capCantBegin() {
        Edges.fault("cap 5;", 0);
    }

    private static void term_text_capStandsOnceBehindTheValues() {
        Edges.fault("bidder 5 cap 3 cap 3;", 15);
        Edges.fault("bidder cap 3 5;", 13);
    }

    private static void term_text_supplyHasOneN() {
        Edges.fault("supply 3 3;", 9);
        Edges.fault("supply cap 3;", 7);
        Edges.fault("reserve supply;", 8);
    }

    private static void term_text_signsCantStand() {
        Edges.fault("supply -3;", 7);
        Edges.fault("supply +3;", 7);
        Edges.fault("bidder 5,4;", 8);
    }

    private static void term_text_theFirstOfSeveralFaultsIsTold() {
        Edges.fault("supply 0;reserve 100;x", 7);
        Edges.fault("bidder 5 6 7 cap 9", 9);
    }

    private static void term_text_aFaultBehindManyPartsIsTold() {
        Edges.fault("supply 3;".repeat(55) + "x", 495);
    }

    // ---- WANTS and TAKES

    private static void term_aValueAtThePriceIsTakenNotWanted() {
        String text = NEW + "bidder 6 5 4;";
        Edges.answers(text, x -> x.at(0, 5, 0), 1);
        Edges.answers(text, x -> x.at(0, 5, 1), 2);
    }

    private static void term_at0AValueOf0IsTakenNotWanted() {
        Edges.answers(NEW + "bidder 0;", x -> x.at(0, 0, 0), 0);
        Edges.answers(NEW + "bidder 0;", x -> x.at(0, 0, 1), 1);
    }

    private static void term_at99AValueOf99IsTakenNotWanted() {
        Edges.answers(NEW + "bidder 99;", x -> x.at(0, 99, 0), 0);
        Edges.answers(NEW + "bidder 99;", x -> x.at(0, 99, 1), 1);
        Edges.answers(NEW + "bidder 98;", x -> x.at(0, 99, 1), 0);
    }

    private static void term_wantsAndTakesAreTheCapAtMost() {
        String text = NEW + "bidder 9 9 9 cap 2;";
        Edges.answers(text, x -> x.at(0, 5, 0), 2);
        Edges.answers(text, x -> x.at(0, 9, 1), 2);
    }

    private static void term_aCapOf0WantsAndTakesNothing() {
        String text = NEW + "bidder 9 9 9 cap 0;";
        Edges.answers(text, x -> x.at(0, 5, 0), 0);
        Edges.answers(text, x -> x.at(0, 5, 1), 0);
        Edges.answers(text, x -> x.of(0, 2), 0);
    }

    private static void term_aCapAboveTheValuesBindsNothing() {
        Edges.answers(NEW + "bidder 9 9 9 cap 4;", x -> x.at(0, 5, 0), 3);
        Edges.answers(NEW + "bidder 9 9 9 cap 3;", x -> x.at(0, 5, 0), 3);
    }

    private static void term_withoutValuesNothingIsWantedOrTaken() {
        Edges.answers(NEW + "bidder;", x -> x.at(0, 0, 0), 0);
        Edges.answers(NEW + "bidder;", x -> x.at(0, 0, 1), 0);
    }

    // ---- THE CLOCK

    private static void term_clock_beginsAtTheReserve() {
        // From 0 on the first one would clinch at 0.
        Edges.answers("supply 2;reserve 3;bidder 9 9;bidder 5;", x -> x.unit(0, 0), 3);
        Edges.answers("supply 2;reserve 0;bidder 9 9;bidder 5;", x -> x.unit(0, 0), 0);
    }

    private static void term_clock_freeIs0AtLeast() {
        // The others want five of two: what is free is no -3.
        Edges.answers("supply 2;reserve 0;bidder 9;bidder 9 9 9 9 9;", x -> x.at(0, 0, 2), 0);
        Edges.answers("supply 2;reserve 0;bidder 9;bidder 9 9 9 9 9;", x -> x.at(0, 0, 3), 0);
    }

    private static void term_clock_freeOf0ClinchesNothing() {
        Edges.answers("supply 2;reserve 0;bidder 9;bidder 9 5;", x -> x.at(0, 0, 2), 0);
        Edges.answers("supply 2;reserve 0;bidder 9;bidder 9 5;", x -> x.at(0, 4, 3), 0);
        Edges.answers("supply 2;reserve 0;bidder 9;bidder 9 5;", x -> x.at(0, 5, 3), 1);
    }

    private static void term_clock_theLesserIsFree() {
        Edges.answers("supply 3;reserve 0;bidder 9 9 9;bidder 5;", x -> x.at(0, 0, 3), 2);
    }

    private static void term_clock_theLesserIsWants() {
        Edges.answers("supply 9;reserve 0;bidder 9 9 9;bidder 5;", x -> x.at(0, 0, 3), 3);
    }

    private static void term_clock_whatHasBeenClinchedIsNotClinchedAgain() {
        Edges.answers("supply 3;reserve 0;bidder 9 9 9;bidder 5;", x -> x.of(0, 2), 3);
        Edges.answers("supply 3;reserve 0;bidder 9 9 9;bidder 5;", x -> x.result(1), 3);
    }

    private static void term_clock_endsWhenAllWantAsManyAsThereAre() {
        // At 4 three are wanted of two, at 5 two.
        Edges.answers("supply 2;reserve 0;bidder 9;bidder 8;bidder 5;", x -> x.result(0), 5);
        Edges.answers("supply 3;reserve 0;bidder 9;bidder 8;bidder 5;", x -> x.result(0), 0);
    }

    private static void term_clock_goesOnWhileOneMoreIsWanted() {
        Edges.answers("supply 1;reserve 4;bidder 6;bidder 5;", x -> x.result(0), 5);
        Edges.answers("supply 1;reserve 5;bidder 6;bidder 5;", x -> x.result(0), 5);
    }

    private static void term_clock_mayEndAtTheReserve() {
        Edges.answers(Edges.SPARE, x -> x.result(0), 3);
        Edges.answers(Edges.SPARE, x -> x.unit(0, 1), 3);
    }

    private static void term_clock_ofNobodyEndsAtTheReserve() {
        Edges.answers("supply 1;reserve 99;", x -> x.result(0), 99);
        Edges.answers(NEW, x -> x.result(0), 0);
    }

    private static void term_clock_mayEndAt99() {
        Edges.answers("supply 1;reserve 0;bidder 99;bidder 99;", x -> x.result(0), 99);
        Edges.answers("supply 1;reserve 99;bidder 99;bidder 99;", x -> x.unit(0, 0), 99);
    }

    private static void term_clock_allClinchAtTheEndToo() {
        Edges.answers(Edges.RISING, x -> x.at(0, 5, 3), 2);
        Edges.answers(Edges.RISING, x -> x.at(2, 5, 3), 1);
        Edges.answers(Edges.RISING, x -> x.result(3), 4);
    }

    private static void term_clock_whatWasClinchedStaysThoughItIsNotWantedAtTheEnd() {
        // At 4 the first clinches one; at 5, the end, it wants none.
        String text = "supply 2;reserve 4;bidder 5 5;bidder 5;";
        Edges.answers(text, x -> x.at(0, 5, 0), 0);
        Edges.answers(text, x -> x.at(0, 5, 3), 1);
        Edges.answers(text, x -> x.unit(0, 0), 4);
    }

    private static void term_rounds_goByNumbers() {
        Edges.answers(Edges.ONE_TIE, x -> x.of(0, 2), 1);
        Edges.answers(Edges.ONE_TIE, x -> x.of(1, 2), 0);
    }

    private static void term_rounds_giveOneUnitEach() {
        // Six ties for four units: none is clinched; one each, then the first its second.
        String text = "supply 4;reserve 0;bidder 5 5;bidder 5 5;bidder 5 5;";
        Edges.row(text, (x, b) -> x.of(b, 2), 2, 1, 1);
        Edges.answers(text, x -> x.result(3), 0);
    }

    private static void term_rounds_goOnAsLongAsUnitsAreLeft() {
        String text = "supply 5;reserve 0;bidder 5 5 5;bidder 5 5 5;bidder 5 5 5;";
        Edges.row(text, (x, b) -> x.of(b, 2), 2, 2, 1);
        Edges.answers(text, x -> x.result(2), 0);
    }

    private static void term_rounds_passWhoTakesNoMore() {
        // At 5 the first takes none (4), the second has all it takes.
        String text = "supply 3;reserve 0;bidder 4;bidder 9;bidder 5 5;bidder 5 5;";
        Edges.row(text, (x, b) -> x.of(b, 2), 0, 1, 1, 1);
    }

    private static void term_rounds_takeAtTheEndExactly() {
        Edges.answers("supply 2;reserve 5;bidder 5;bidder 4;", x -> x.of(0, 2), 1);
        Edges.answers("supply 2;reserve 5;bidder 5;bidder 4;", x -> x.of(1, 2), 0);
    }

    private static void term_rounds_passWhoseCapIsFull() {
        Edges.row("supply 3;reserve 5;bidder 5 5 cap 1;bidder 5 5;", (x, b) -> x.of(b, 2), 1, 2);
        Edges.row("supply 3;reserve 5;bidder 5 5 cap 0;bidder 5 5;", (x, b) -> x.of(b, 2), 0, 2);
    }

    private static void term_rounds_arePaidAtTheEnd() {
        Edges.answers(Edges.TIED, x -> x.unit(0, 0), 0);
        Edges.answers(Edges.TIED, x -> x.unit(0, 1), 5);
    }

    private static void term_rounds_ofEight() {
        // Eight rounds: all values are at the reserve, none is wanted.
        String text = "supply 30;reserve 5;bidder 5 5 5 5 5 5 5 5;bidder 5;";
        Edges.row(text, (x, b) -> x.of(b, 4), 8, 1);
    }

    private static void term_whatIsLeftStaysUnsold() {
        Edges.answers("supply 30;reserve 5;bidder 5 5;bidder 4;", x -> x.result(2), 28);
        Edges.answers(NEW, x -> x.result(2), 10);
    }

    // ---- the KINDS, WORTH, GAIN

    private static void term_kinds_whoHasNothingPaysNothing() {
        Edges.row(Edges.ONE_TIE, (x, kind) -> x.pays(1, kind), 0, 0, 0, 0);
        Edges.row(Edges.SPARE, (x, kind) -> x.pays(2, kind), 0, 0, 0, 0);
    }

    private static void term_kinds_aLoneBidderPaysTheReserve() {
        Edges.row("supply 3;reserve 4;bidder 9 6;", (x, kind) -> x.pays(0, kind), 8, 8, 15, 8);
        Edges.row("supply 3;reserve 0;bidder 9 6;", (x, kind) -> x.pays(0, kind), 0, 0, 15, 0);
    }

    private static void term_kinds_ownValuesAreTheFirstOnes() {
        Edges.answers("supply 1;reserve 0;bidder 9 6 1;", x -> x.pays(0, 2), 9);
    }

    private static void term_kinds_harmLessReserveForEachUnsold() {
        // To the others six are worth 6 * 3; they have nothing, four are unsold.
        Edges.answers(Edges.SPARE, x -> x.pays(0, 3), 18 - 0 - 12);
    }

    private static void term_worth_of0UnitsIs0() {
        Edges.answers(Edges.RISING, x -> x.worth(7, 0), 0);
    }

    private static void term_worth_valuesBelowTheReserveAreNotAmongTheGreatest() {
        Edges.answers("supply 6;reserve 3;bidder 9 2;", x -> x.worth(1, 2), 12);
        Edges.answers("supply 6;reserve 3;bidder 9 3;", x -> x.worth(1, 2), 12);
        Edges.answers("supply 6;reserve 3;bidder 9 4;", x -> x.worth(1, 2), 13);
    }

    private static void term_worth_ofEachItsFirstOnesCapAtMost() {
        Edges.answers("supply 6;reserve 0;bidder 9 8 7 cap 2;", x -> x.worth(1, 3), 17);
        Edges.answers("supply 6;reserve 0;bidder 9 8 7 cap 0;", x -> x.worth(1, 3), 0);
    }

    private static void term_worth_ofMoreUnitsThanValuesIsFilledByTheReserve() {
        Edges.answers("supply 6;reserve 2;bidder 9;", x -> x.worth(1, 30), 9 + 29 * 2);
    }

    private static void term_gain_is0WithoutUnits() {
        Edges.row(Edges.ONE_TIE, (x, kind) -> x.gain(1, kind), 0, 0, 0, 0);
    }

    // ---- ACTS and WERE

    private static void term_acts_theLatest12CanBeUndone() {
        ClinchClock x = new ClinchClock();
        for (int price = 1; price <= 13; price++) {
            x.reserve(price);
        }
        Edges.due(x.count(4), 12);
        for (int left = 11; left >= 0; left--) {
            Edges.due(x.undo(), left);
        }
        Edges.due(x.undo(), NONE);
        Edges.due(x.count(2), 1);
    }

    private static void term_acts_12CanAllBeUndone() {
        ClinchClock x = new ClinchClock();
        for (int price = 1; price <= 12; price++) {
            x.reserve(price);
        }
        for (int left = 11; left >= 0; left--) {
            Edges.due(x.undo(), left);
        }
        Edges.due(x.count(2), 0);
    }

    private static void term_acts_textForgetsThem() {
        ClinchClock x = Edges.built(Edges.RISING);
        Edges.due(x.count(4), 12);
        x.text();
        Edges.due(x.count(4), 0);
        Edges.due(x.undo(), NONE);
    }

    private static void term_acts_theRecordIsGoneByTextToo() {
        ClinchClock x = Edges.built(Edges.RISING);
        Edges.due(x.count(7), 8);
        x.text();
        Edges.due(x.count(7), 0);
        Edges.due(x.record(0, 0), NONE);
    }

    private static void term_acts_feedAndBackAreNone() {
        ClinchClock x = new ClinchClock();
        x.feed(1, 2, 3, 4, 5);
        x.back(3);
        Edges.due(x.count(4), 0);
        Edges.due(x.undo(), NONE);
    }

    private static void term_acts_undoIsNone() {
        ClinchClock x = new ClinchClock();
        x.join();
        x.undo();
        Edges.due(x.count(4), 0);
        Edges.due(x.undo(), NONE);
    }

    private static void term_512CallsAreAnswered() {
        ClinchClock x = new ClinchClock();
        for (int call = 1; call < 512; call++) {
            Edges.due(x.supply(call % 30 + 1), call == 1 ? 10 : (call - 1) % 30 + 1);
        }
        Edges.due(x.undo(), 11);
    }

    private static void term_were_nothingHappens() {
        ClinchClock x = Edges.clock(Edges.RISING);
        Edges.due(x.bySupply(1, 0), 8);
        Edges.due(x.byReserve(9, 0), 9);
        Edges.due(x.unitsWithout(1, 0), 2);
        Edges.due(x.result(0), 5);
        Edges.due(x.count(4), 0);
        Edges.due(Edges.spelt(x), Edges.RISING);
    }

    private static void term_noneRatherThanNothing_ofBidder() {
        // The second one has no unit: -2 for 5, but no what 6; no unit 0, but no unit -1.
        Edges.answers(Edges.ONE_TIE, x -> x.of(1, 5), NOTHING);
        Edges.refused(Edges.ONE_TIE, x -> x.of(1, 6), NONE);
        Edges.answers(Edges.ONE_TIE, x -> x.unit(1, 0), NOTHING);
        Edges.refused(Edges.ONE_TIE, x -> x.unit(1, -1), NONE);
        Edges.answers(Edges.ONE_TIE, x -> x.perUnit(1, 0), NOTHING);
        Edges.refused(Edges.ONE_TIE, x -> x.perUnit(1, 4), NONE);
        Edges.answers(Edges.ONE_TIE, x -> x.envies(1, 0), NOTHING);
        Edges.refused(Edges.ONE_TIE, x -> x.envies(1, 4), NONE);
    }

    private static void term_noneRatherThanNothing_ofNobody() {
        Edges.answers(NEW, x -> x.dearest(3), NOTHING);
        Edges.refused(NEW, x -> x.dearest(4), NONE);
        Edges.answers(NEW, x -> x.blocks(3), NOTHING);
        Edges.refused(NEW, x -> x.blocks(4), NONE);
        Edges.answers(NEW, x -> x.result(8), NOTHING);
        Edges.refused(NEW, x -> x.result(10), NONE);
    }

    private static void term_noneRatherThanNothing_ofWere() {
        Edges.answers(NEW, x -> x.bySupply(1, 8), NOTHING);
        Edges.refused(NEW, x -> x.bySupply(31, 8), NONE);
        Edges.answers(NEW, x -> x.reserveFor(11), NOTHING);
        Edges.refused(NEW, x -> x.reserveFor(0), NONE);
        Edges.answers("supply 1;reserve 5;", x -> x.supplyFor(4), NOTHING);
        Edges.refused("supply 1;reserve 5;", x -> x.supplyFor(-1), NONE);
        // Eight values and a full cap: none would bring a unit, but no ninth value may come at all.
        Edges.answers(NEW + "bidder 5 cap 1;", x -> x.valueFor(0), NOTHING);
        Edges.refused(NEW + "bidder 5 5 5 5 5 5 5 5 cap 1;", x -> x.valueFor(0), NONE);
    }

    private static void term_noneRatherThanNothing_ofTexts() {
        Edges.answers(NEW, x -> x.spell(20), NOTHING);
        Edges.refused(NEW, x -> x.spell(-2), NONE);
        Edges.answers(NEW, x -> x.report(0, 14), NOTHING);
        Edges.refused(NEW, x -> x.report(4, 14), NONE);
    }
}
