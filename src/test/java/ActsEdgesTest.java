/** The edges of promises 5 to 20: the ACTS and undo. */
public final class ActsEdgesTest {
    private static final int NONE = Edges.NONE;
    private static final int BIG = Edges.BIG;
    private static final int SMALL = Edges.SMALL;
    private static final String NEW = Edges.EMPTY;
    private static final String THREE = NEW + "bidder 9 6 cap 4;bidder 8;bidder;";

    private ActsEdgesTest() {
    }

    public static void main(String[] args) {
        Edges.run(ActsEdgesTest.class, 5, 20);
    }

    // ---- 5: join

    private static void promise05_theFirstIsNumber0() {
        Edges.acts(NEW, x -> x.join(), 0, NEW + "bidder;");
    }

    private static void promise05_theEighthIsNumber7() {
        Edges.acts(Edges.SEVEN, x -> x.join(), 7, Edges.SEVEN + "bidder;");
    }

    private static void promise05_aNinthIsRefused() {
        Edges.refused(Edges.EIGHT, x -> x.join(), NONE);
        Edges.refused(Edges.FULL, x -> x.join(), NONE);
    }

    private static void promise05_comesWithoutValuesAndWithCap8WhereAnotherOneWas() {
        ClinchClock x = Edges.clock(NEW + "bidder 9 9 cap 3;");
        x.leave(0);
        Edges.due(x.join(), 0);
        Edges.due(x.of(0, 0), 0);
        Edges.due(x.of(0, 1), 8);
    }

    private static void promise05_thereIsRoomAgainOnceOneHasLeft() {
        ClinchClock x = Edges.clock(Edges.EIGHT);
        x.leave(3);
        Edges.due(x.join(), 7);
        Edges.due(x.join(), NONE);
    }

    // ---- 6: leave

    private static void promise06_theFirstLeaves() {
        Edges.acts(THREE, x -> Edges.bit(x.leave(0)), 1, NEW + "bidder 8;bidder;");
    }

    private static void promise06_theLastLeaves() {
        Edges.acts(THREE, x -> Edges.bit(x.leave(2)), 1, NEW + "bidder 9 6 cap 4;bidder 8;");
    }

    private static void promise06_numbersAboveAreOneLess() {
        Edges.acts(THREE, x -> Edges.bit(x.leave(1)), 1, NEW + "bidder 9 6 cap 4;bidder;");
    }

    private static void promise06_theOnlyOneLeaves() {
        Edges.acts(NEW + "bidder 4;", x -> Edges.bit(x.leave(0)), 1, NEW);
    }

    private static void promise06_oneOfEightLeaves() {
        Edges.acts(Edges.EIGHT, x -> Edges.bit(x.leave(7)), 1, Edges.SEVEN);
    }

    /** Whoever had units and values, and was the last one, is looked at by no answer. */
    private static void onlyTheFirstIsThere(ClinchClock x) {
        Edges.due(x.wanted(0), 2);
        Edges.due(x.count(3), 2);
        Edges.due(x.count(8), 0);
        Edges.due(x.count(9), 2);
        Edges.due(x.ranked(2, 0), NONE);
        Edges.due(x.step(0, 2), 1);
        Edges.due(x.worth(1, 3), 14);
        Edges.due(x.paid(2), 14);
        Edges.due(x.result(3), 2);
        Edges.due(x.result(4), 1);
        Edges.due(x.result(5), 14);
        Edges.due(x.result(6), 14);
        Edges.due(x.envies(0, 2), Edges.NOTHING);
        Edges.due(x.dearest(2), 0);
        Edges.due(x.pivot(), 0);
        Edges.due(Edges.reported(x, 2), "end 0;0 has 2 pays 14;left 2;");
    }

    private static void promise06_whoHasLeftCountsNoMore() {
        ClinchClock x = Edges.clock("supply 4;reserve 0;bidder 9 5;bidder 8 3;");
        Edges.due(x.result(1), 4);
        x.leave(1);
        onlyTheFirstIsThere(x);
    }

    private static void promise06_aBidderWithoutValuesThatLeftCountsNoMore() {
        ClinchClock x = Edges.clock("supply 4;reserve 0;bidder 9 5;bidder;");
        Edges.due(x.count(8), 1);
        x.leave(1);
        onlyTheFirstIsThere(x);
    }

    private static void promise06_noSuchBidder() {
        Edges.noSuchBidder(THREE, (x, b) -> Edges.bit(x.leave(b)), 0);
        Edges.noSuchBidder(NEW, (x, b) -> Edges.bit(x.leave(b)), 0);
        Edges.noSuchBidder(Edges.EIGHT, (x, b) -> Edges.bit(x.leave(b)), 0);
    }

    // ---- 7: value

    private static void promise07_theFirstOfNone() {
        Edges.acts(THREE, x -> x.value(2, 7), 1, NEW + "bidder 9 6 cap 4;bidder 8;bidder 7;");
    }

    private static void promise07_aheadOfAll() {
        Edges.acts(THREE, x -> x.value(0, 10), 3, NEW + "bidder 10 9 6 cap 4;bidder 8;bidder;");
    }

    private static void promise07_betweenTwo() {
        Edges.acts(THREE, x -> x.value(0, 7), 3, NEW + "bidder 9 7 6 cap 4;bidder 8;bidder;");
    }

    private static void promise07_behindAll() {
        Edges.acts(THREE, x -> x.value(0, 5), 3, NEW + "bidder 9 6 5 cap 4;bidder 8;bidder;");
    }

    private static void promise07_likeOneThatThereIs() {
        Edges.acts(THREE, x -> x.value(0, 9), 3, NEW + "bidder 9 9 6 cap 4;bidder 8;bidder;");
        Edges.acts(THREE, x -> x.value(0, 6), 3, NEW + "bidder 9 6 6 cap 4;bidder 8;bidder;");
    }

    private static void promise07_0And99Stand() {
        Edges.acts(NEW + "bidder;", x -> x.value(0, 0), 1, NEW + "bidder 0;");
        Edges.acts(NEW + "bidder;", x -> x.value(0, 99), 1, NEW + "bidder 99;");
    }

    private static void promise07_outOfBounds() {
        Edges.outside(THREE, 0, 99, (x, v) -> x.value(0, v), NONE);
    }

    private static void promise07_theEighthComes() {
        Edges.acts(NEW + "bidder 80 70 60 40 30 20 10;", x -> x.value(0, 50), 8, Edges.EIGHT_VALUES);
    }

    private static void promise07_aNinthIsRefused() {
        Edges.refused(Edges.EIGHT_VALUES, x -> x.value(0, 0), NONE);
        Edges.refused(Edges.EIGHT_VALUES, x -> x.value(0, 99), NONE);
        Edges.refused(Edges.EIGHT_VALUES, x -> x.value(0, 50), NONE);
    }

    private static void promise07_noSuchBidder() {
        Edges.noSuchBidder(THREE, (x, b) -> x.value(b, 5), NONE);
        Edges.noSuchBidder(NEW, (x, b) -> x.value(b, 5), NONE);
        Edges.noSuchBidder(Edges.EIGHT, (x, b) -> x.value(b, 5), NONE);
    }

    private static void promise07_comesBeyondTheCapToo() {
        Edges.acts(NEW + "bidder 5 cap 0;", x -> x.value(0, 4), 2, NEW + "bidder 5 4 cap 0;");
    }

    // ---- 8: without

    private static void promise08_theFirstGoes() {
        Edges.acts(Edges.EIGHT_VALUES, x -> x.without(0, 0), 7, NEW + "bidder 70 60 50 40 30 20 10;");
    }

    private static void promise08_theLastGoes() {
        Edges.acts(Edges.EIGHT_VALUES, x -> x.without(0, 7), 7, NEW + "bidder 80 70 60 50 40 30 20;");
    }

    private static void promise08_oneBetweenGoes() {
        Edges.acts(Edges.EIGHT_VALUES, x -> x.without(0, 3), 7, NEW + "bidder 80 70 60 40 30 20 10;");
    }

    private static void promise08_theOnlyOneGoes() {
        Edges.acts(THREE, x -> x.without(1, 0), 0, NEW + "bidder 9 6 cap 4;bidder;bidder;");
    }

    private static void promise08_ofTheLastOfEightBidders() {
        String seven = "bidder 98 90 80 70 60 50 40 30 cap 7;".repeat(7);
        Edges.acts(Edges.FULL, x -> x.without(7, 7), 7,
            "supply 30;reserve 0;" + seven + "bidder 98 90 80 70 60 50 40 cap 7;");
    }

    private static void promise08_theOthersStay() {
        String seven = "bidder 98 90 80 70 60 50 40 30 cap 7;".repeat(7);
        Edges.acts(Edges.FULL, x -> x.without(0, 0), 7,
            "supply 30;reserve 0;bidder 90 80 70 60 50 40 30 cap 7;" + seven);
    }

    private static void promise08_noSuchValue() {
        Edges.outside(THREE, 0, 1, (x, i) -> x.without(0, i), NONE);
        Edges.outside(Edges.EIGHT_VALUES, 0, 7, (x, i) -> x.without(0, i), NONE);
        Edges.refused(THREE, x -> x.without(2, 0), NONE);
    }

    private static void promise08_noSuchBidder() {
        Edges.noSuchBidder(THREE, (x, b) -> x.without(b, 0), NONE);
        Edges.noSuchBidder(NEW, (x, b) -> x.without(b, 0), NONE);
        Edges.noSuchBidder(Edges.FULL, (x, b) -> x.without(b, 0), NONE);
    }

    // ---- 9: cap

    private static void promise09_0Stands() {
        Edges.acts(THREE, x -> x.cap(0, 0), 4, NEW + "bidder 9 6 cap 0;bidder 8;bidder;");
    }

    private static void promise09_8Stands() {
        Edges.acts(THREE, x -> x.cap(0, 8), 4, NEW + "bidder 9 6;bidder 8;bidder;");
    }

    private static void promise09_theOldOneIsTold() {
        Edges.acts(THREE, x -> x.cap(1, 3), 8, NEW + "bidder 9 6 cap 4;bidder 8 cap 3;bidder;");
        Edges.acts(NEW + "bidder cap 0;", x -> x.cap(0, 1), 0, NEW + "bidder cap 1;");
    }

    private static void promise09_outOfBounds() {
        Edges.outside(THREE, 0, 8, (x, cap) -> x.cap(0, cap), NONE);
    }

    private static void promise09_itIsSo() {
        Edges.refused(THREE, x -> x.cap(0, 4), NONE);
        Edges.refused(THREE, x -> x.cap(1, 8), NONE);
        Edges.refused(NEW + "bidder cap 0;", x -> x.cap(0, 0), NONE);
    }

    private static void promise09_noSuchBidder() {
        Edges.noSuchBidder(THREE, (x, b) -> x.cap(b, 3), NONE);
        Edges.noSuchBidder(NEW, (x, b) -> x.cap(b, 3), NONE);
        Edges.noSuchBidder(Edges.EIGHT, (x, b) -> x.cap(b, 3), NONE);
    }

    // ---- 10: change

    private static void promise10_inItsPlace() {
        Edges.acts(NEW + "bidder 9 6 3;", x -> x.change(0, 1, 7), 6, NEW + "bidder 9 7 3;");
    }

    private static void promise10_upToTheFirstPlace() {
        Edges.acts(NEW + "bidder 9 6 3;", x -> x.change(0, 2, 99), 3, NEW + "bidder 99 9 6;");
    }

    private static void promise10_downToTheLastPlace() {
        Edges.acts(NEW + "bidder 9 6 3;", x -> x.change(0, 0, 0), 9, NEW + "bidder 6 3 0;");
    }

    private static void promise10_toAnotherOnesValue() {
        Edges.acts(NEW + "bidder 9 6 3;", x -> x.change(0, 0, 3), 9, NEW + "bidder 6 3 3;");
    }

    private static void promise10_aValueOf0IsToldAs0() {
        Edges.acts(NEW + "bidder 0;", x -> x.change(0, 0, 1), 0, NEW + "bidder 1;");
    }

    private static void promise10_oneOfEight() {
        Edges.acts(Edges.EIGHT_VALUES, x -> x.change(0, 7, 75), 10, NEW + "bidder 80 75 70 60 50 40 30 20;");
        Edges.acts(Edges.EIGHT_VALUES, x -> x.change(0, 0, 5), 80, NEW + "bidder 70 60 50 40 30 20 10 5;");
    }

    private static void promise10_theOthersStay() {
        String seven = "bidder 98 90 80 70 60 50 40 30 cap 7;".repeat(7);
        Edges.acts(Edges.FULL, x -> x.change(0, 0, 1), 98,
            "supply 30;reserve 0;bidder 90 80 70 60 50 40 30 1 cap 7;" + seven);
        Edges.acts(Edges.FULL, x -> x.change(7, 7, 99), 30,
            "supply 30;reserve 0;" + seven + "bidder 99 98 90 80 70 60 50 40 cap 7;");
    }

    private static void promise10_itIsSo() {
        Edges.refused(NEW + "bidder 9 6 6;", x -> x.change(0, 0, 9), NONE);
        Edges.refused(NEW + "bidder 9 6 6;", x -> x.change(0, 2, 6), NONE);
    }

    private static void promise10_outOfBounds() {
        Edges.outside(THREE, 0, 99, (x, v) -> x.change(0, 0, v), NONE);
    }

    private static void promise10_noSuchValue() {
        Edges.outside(THREE, 0, 1, (x, i) -> x.change(0, i, 5), NONE);
        Edges.outside(Edges.EIGHT_VALUES, 0, 7, (x, i) -> x.change(0, i, 5), NONE);
        Edges.refused(THREE, x -> x.change(2, 0, 5), NONE);
    }

    private static void promise10_noSuchBidder() {
        Edges.noSuchBidder(THREE, (x, b) -> x.change(b, 0, 5), NONE);
        Edges.noSuchBidder(NEW, (x, b) -> x.change(b, 0, 5), NONE);
        Edges.noSuchBidder(Edges.FULL, (x, b) -> x.change(b, 0, 5), NONE);
    }

    // ---- 11: split

    private static void promise11_one() {
        Edges.acts(NEW + "bidder 9 6 3;bidder 5;", x -> x.split(0, 1), 2, NEW + "bidder 9 6;bidder 5;bidder 3;");
    }

    private static void promise11_allButOne() {
        Edges.acts(NEW + "bidder 9 6 3;bidder 5;", x -> x.split(0, 2), 2, NEW + "bidder 9;bidder 5;bidder 6 3;");
        Edges.acts(Edges.EIGHT_VALUES, x -> x.split(0, 7), 1, NEW + "bidder 80;bidder 70 60 50 40 30 20 10;");
    }

    private static void promise11_withItsCap() {
        Edges.acts(THREE, x -> x.split(0, 1), 3, NEW + "bidder 9 cap 4;bidder 8;bidder;bidder 6 cap 4;");
        Edges.acts(NEW + "bidder 9 6 cap 0;", x -> x.split(0, 1), 1, NEW + "bidder 9 cap 0;bidder 6 cap 0;");
    }

    private static void promise11_asTheEighth() {
        Edges.acts(Edges.SEVEN, x -> x.split(0, 1), 7,
            NEW + "bidder 7 cap 6;" + "bidder 4;".repeat(6) + "bidder 5 cap 6;");
    }

    private static void promise11_asManyAsItHasIsRefused() {
        Edges.refused(THREE, x -> x.split(0, 2), NONE);
        Edges.refused(THREE, x -> x.split(1, 1), NONE);
        Edges.refused(Edges.EIGHT_VALUES, x -> x.split(0, 8), NONE);
    }

    private static void promise11_0IsRefused() {
        Edges.refused(THREE, x -> x.split(0, 0), NONE);
        Edges.refused(THREE, x -> x.split(2, 0), NONE);
    }

    private static void promise11_noSuchN() {
        Edges.outside(THREE, 1, 1, (x, n) -> x.split(0, n), NONE);
    }

    private static void promise11_withoutValues() {
        Edges.refused(THREE, x -> x.split(2, 1), NONE);
    }

    private static void promise11_noSuchBidder() {
        Edges.noSuchBidder(THREE, (x, b) -> x.split(b, 1), NONE);
        Edges.noSuchBidder(NEW, (x, b) -> x.split(b, 1), NONE);
    }

    private static void promise11_thereAreEight() {
        Edges.refused(Edges.EIGHT, x -> x.split(0, 1), NONE);
        Edges.refused(Edges.FULL, x -> x.split(7, 3), NONE);
    }

    // ---- 12: move

    private static void promise12_toTheLastPlace() {
        Edges.acts(THREE, x -> Edges.bit(x.move(0, 2)), 1, NEW + "bidder 8;bidder;bidder 9 6 cap 4;");
    }

    private static void promise12_toTheFirstPlace() {
        Edges.acts(THREE, x -> Edges.bit(x.move(2, 0)), 1, NEW + "bidder;bidder 9 6 cap 4;bidder 8;");
    }

    private static void promise12_byOnePlace() {
        Edges.acts(THREE, x -> Edges.bit(x.move(0, 1)), 1, NEW + "bidder 8;bidder 9 6 cap 4;bidder;");
        Edges.acts(THREE, x -> Edges.bit(x.move(2, 1)), 1, NEW + "bidder 9 6 cap 4;bidder;bidder 8;");
    }

    private static void promise12_amongEight() {
        Edges.acts(Edges.EIGHT, x -> Edges.bit(x.move(0, 7)), 1, NEW + "bidder 4;".repeat(7) + "bidder 7 5 cap 6;");
    }

    private static void promise12_itIsThat() {
        Edges.refused(THREE, x -> Edges.bit(x.move(0, 0)), 0);
        Edges.refused(THREE, x -> Edges.bit(x.move(2, 2)), 0);
    }

    private static void promise12_noSuchPlace() {
        Edges.noSuchBidder(THREE, (x, to) -> Edges.bit(x.move(0, to)), 0);
        Edges.noSuchBidder(Edges.EIGHT, (x, to) -> Edges.bit(x.move(0, to)), 0);
    }

    private static void promise12_noSuchBidder() {
        Edges.noSuchBidder(THREE, (x, b) -> Edges.bit(x.move(b, 0)), 0);
        Edges.noSuchBidder(NEW, (x, b) -> Edges.bit(x.move(b, 0)), 0);
        Edges.refused(THREE, x -> Edges.bit(x.move(3, 3)), 0);
    }

    // ---- 13: copy

    private static void promise13_valuesAndCap() {
        Edges.acts(THREE, x -> x.copy(0), 3, THREE + "bidder 9 6 cap 4;");
    }

    private static void promise13_withoutValues() {
        Edges.acts(THREE, x -> x.copy(2), 3, THREE + "bidder;");
    }

    private static void promise13_ofEightValues() {
        Edges.acts(Edges.EIGHT_VALUES, x -> x.copy(0), 1, Edges.EIGHT_VALUES + "bidder 80 70 60 50 40 30 20 10;");
    }

    private static void promise13_asTheEighth() {
        Edges.acts(Edges.SEVEN, x -> x.copy(6), 7, Edges.SEVEN + "bidder 4;");
    }

    private static void promise13_whatBecomesOfOneIsNotTheOthers() {
        ClinchClock x = Edges.clock(THREE);
        x.copy(0);
        x.value(3, 7);
        x.cap(3, 1);
        Edges.due(Edges.spelt(x), THREE + "bidder 9 7 6 cap 1;");
    }

    private static void promise13_thereAreEight() {
        Edges.refused(Edges.EIGHT, x -> x.copy(0), NONE);
        Edges.refused(Edges.FULL, x -> x.copy(7), NONE);
    }

    private static void promise13_noSuchBidder() {
        Edges.noSuchBidder(THREE, (x, b) -> x.copy(b), NONE);
        Edges.noSuchBidder(NEW, (x, b) -> x.copy(b), NONE);
        Edges.noSuchBidder(Edges.SEVEN, (x, b) -> x.copy(b), NONE);
    }

    // ---- 14: clear

    private static void promise14_allGoAndTheCapStays() {
        Edges.acts(THREE, x -> x.clear(0), 2, NEW + "bidder cap 4;bidder 8;bidder;");
    }

    private static void promise14_eightGo() {
        Edges.acts(Edges.EIGHT_VALUES, x -> x.clear(0), 8, NEW + "bidder;");
    }

    private static void promise14_oneGoes() {
        Edges.acts(THREE, x -> x.clear(1), 1, NEW + "bidder 9 6 cap 4;bidder;bidder;");
    }

    private static void promise14_itHasNone() {
        Edges.refused(THREE, x -> x.clear(2), NONE);
    }

    private static void promise14_noSuchBidder() {
        Edges.noSuchBidder(THREE, (x, b) -> x.clear(b), NONE);
        Edges.noSuchBidder(NEW, (x, b) -> x.clear(b), NONE);
        Edges.noSuchBidder(Edges.FULL, (x, b) -> x.clear(b), NONE);
    }

    // ---- 15: hold

    private static void promise15_ofNobody() {
        ClinchClock x = Edges.clock("supply 3;reserve 7;");
        Edges.due(x.hold(2), 0);
        Edges.due(x.count(4), 1);
        Edges.due(x.record(0, 0), 7);
        Edges.due(x.record(0, 1), 0);
        Edges.due(x.record(0, 2), 0);
        Edges.due(x.record(0, 3), 2);
        Edges.due(Edges.spelt(x), "supply 3;reserve 7;");
    }

    private static void promise15_ofNothing() {
        String text = "supply 3;reserve 7;bidder 6 5 cap 2;bidder;";
        Edges.acts(text, x -> x.hold(0), 0, text);
    }

    private static void promise15_byEachKind() {
        int[] paid = {16, 20, 30, 16};
        for (int kind = 0; kind < 4; kind++) {
            ClinchClock x = Edges.clock(Edges.RISING);
            Edges.due(x.hold(kind), 4);
            Edges.due(x.record(0, 0), 5);
            Edges.due(x.record(0, 1), 4);
            Edges.due(x.record(0, 2), paid[kind]);
            Edges.due(x.record(0, 3), kind);
        }
    }

    private static void promise15_theFirstValuesGoAndTheCapIsLess() {
        Edges.acts(Edges.RISING, x -> x.hold(0), 4, "supply 4;reserve 1;bidder 4 cap 6;bidder 5 cap 7;bidder 2 cap 7;");
    }

    private static void promise15_unitsGotRoundByRoundGoToo() {
        Edges.acts(Edges.TIED, x -> x.hold(1), 3, "supply 3;reserve 0;bidder cap 6;bidder 5 cap 7;");
    }

    private static void promise15_aCapMayBecome0() {
        Edges.acts(Edges.SPARE, x -> x.hold(0), 2, "supply 6;reserve 3;bidder 3 cap 0;bidder 2;bidder;");
    }

    private static void promise15_eightValuesGo() {
        Edges.acts(Edges.EIGHT_VALUES, x -> x.hold(0), 8, NEW + "bidder cap 0;");
    }

    private static void promise15_whoHasNothingStays() {
        Edges.acts("supply 30;reserve 5;bidder 9 9 9 9 9 9 9 9 cap 1;bidder 4 3;", x -> x.hold(0), 1,
            "supply 30;reserve 5;bidder 9 9 9 9 9 9 9 cap 0;bidder 4 3;");
    }

    private static void promise15_ofEverything() {
        ClinchClock x = Edges.clock(Edges.FULL);
        Edges.due(x.hold(3), 30);
        Edges.due(x.count(1), 30);
    }

    private static void promise15_theLatest8LinesAreKept() {
        ClinchClock x = new ClinchClock();
        for (int price = 1; price <= 8; price++) {
            x.reserve(price);
            x.hold(0);
            Edges.due(x.count(7), price);
        }
        Edges.due(x.record(7, 0), 1);
        x.reserve(9);
        x.hold(0);
        Edges.due(x.count(7), 8);
        Edges.due(x.record(0, 0), 9);
        Edges.due(x.record(7, 0), 2);
        Edges.due(x.record(8, 0), NONE);
    }

    private static void promise15_noSuchKind() {
        Edges.noSuchKind(Edges.RISING, (x, kind) -> x.hold(kind), NONE);
        Edges.noSuchKind(NEW, (x, kind) -> x.hold(kind), NONE);
    }

    // ---- 16: shade

    private static void promise16_99MoreAndLessStand() {
        Edges.acts(NEW + "bidder 50 0;", x -> x.shade(0, 99), 2, NEW + "bidder 99 99;");
        Edges.acts(NEW + "bidder 99 50;", x -> x.shade(0, -99), 2, NEW + "bidder 0 0;");
    }

    private static void promise16_moreThan99IsRefused() {
        Edges.refused(THREE, x -> x.shade(0, 100), NONE);
        Edges.refused(THREE, x -> x.shade(0, BIG), NONE);
    }

    private static void promise16_lessThanMinus99IsRefused() {
        Edges.refused(THREE, x -> x.shade(0, -100), NONE);
        Edges.refused(THREE, x -> x.shade(0, SMALL), NONE);
    }

    private static void promise16_heldTo99() {
        Edges.acts(NEW + "bidder 98 97 5;", x -> x.shade(0, 2), 3, NEW + "bidder 99 99 7;");
    }

    private static void promise16_heldTo0() {
        Edges.acts(NEW + "bidder 9 2 1;", x -> x.shade(0, -2), 3, NEW + "bidder 7 0 0;");
    }

    private static void promise16_thoseThatStayAreNotCounted() {
        Edges.acts(NEW + "bidder 99 99 5;", x -> x.shade(0, 1), 1, NEW + "bidder 99 99 6;");
        Edges.acts(NEW + "bidder 5 0 0;", x -> x.shade(0, -1), 1, NEW + "bidder 4 0 0;");
    }

    private static void promise16_noneWouldChange() {
        Edges.refused(THREE, x -> x.shade(0, 0), NONE);
        Edges.refused(NEW + "bidder 99 99;", x -> x.shade(0, 1), NONE);
        Edges.refused(NEW + "bidder 0 0;", x -> x.shade(0, -1), NONE);
    }

    private static void promise16_withoutValues() {
        Edges.refused(THREE, x -> x.shade(2, 5), NONE);
        Edges.refused(THREE, x -> x.shade(2, -5), NONE);
    }

    private static void promise16_allOfEight() {
        Edges.acts(Edges.EIGHT_VALUES, x -> x.shade(0, 9), 8, NEW + "bidder 89 79 69 59 49 39 29 19;");
    }

    private static void promise16_theOthersStay() {
        String seven = "bidder 98 90 80 70 60 50 40 30 cap 7;".repeat(7);
        Edges.acts(Edges.FULL, x -> x.shade(0, 1), 8,
            "supply 30;reserve 0;bidder 99 91 81 71 61 51 41 31 cap 7;" + seven);
        Edges.acts(Edges.FULL, x -> x.shade(7, -1), 8,
            "supply 30;reserve 0;" + seven + "bidder 97 89 79 69 59 49 39 29 cap 7;");
        Edges.acts(THREE, x -> x.shade(1, -8), 1, NEW + "bidder 9 6 cap 4;bidder 0;bidder;");
    }

    private static void promise16_noSuchBidder() {
        Edges.noSuchBidder(THREE, (x, b) -> x.shade(b, 1), NONE);
        Edges.noSuchBidder(NEW, (x, b) -> x.shade(b, 1), NONE);
        Edges.noSuchBidder(Edges.FULL, (x, b) -> x.shade(b, 1), NONE);
    }

    // ---- 17: swap

    private static void promise17_theFirstAndTheLast() {
        Edges.acts(THREE, x -> Edges.bit(x.swap(0, 2)), 1, NEW + "bidder;bidder 8;bidder 9 6 cap 4;");
        Edges.acts(THREE, x -> Edges.bit(x.swap(2, 0)), 1, NEW + "bidder;bidder 8;bidder 9 6 cap 4;");
    }

    private static void promise17_twoNextToEachOther() {
        Edges.acts(THREE, x -> Edges.bit(x.swap(1, 0)), 1, NEW + "bidder 8;bidder 9 6 cap 4;bidder;");
    }

    private static void promise17_ofEightValues() {
        Edges.acts(Edges.EIGHT_VALUES + "bidder 8 7 6 5 4 3 2 1 cap 2;", x -> Edges.bit(x.swap(0, 1)), 1,
            NEW + "bidder 8 7 6 5 4 3 2 1 cap 2;bidder 80 70 60 50 40 30 20 10;");
    }

    private static void promise17_alikeOnesAreAnActToo() {
        Edges.acts(Edges.TIED, x -> Edges.bit(x.swap(0, 1)), 1, Edges.TIED);
    }

    private static void promise17_bothAreOne() {
        Edges.refused(THREE, x -> Edges.bit(x.swap(1, 1)), 0);
    }

    private static void promise17_noSuchOnes() {
        Edges.noSuchBidder(THREE, (x, b) -> Edges.bit(x.swap(b, 0)), 0);
        Edges.noSuchBidder(THREE, (x, b) -> Edges.bit(x.swap(0, b)), 0);
        Edges.noSuchBidder(NEW, (x, b) -> Edges.bit(x.swap(b, 0)), 0);
        Edges.noSuchBidder(Edges.EIGHT, (x, b) -> Edges.bit(x.swap(b, 7)), 0);
    }

    // ---- 18: supply

    private static void promise18_1And30Stand() {
        Edges.acts(NEW, x -> x.supply(1), 10, "supply 1;reserve 0;");
        Edges.acts("supply 1;reserve 0;", x -> x.supply(30), 1, "supply 30;reserve 0;");
    }

    private static void promise18_outOfBounds() {
        Edges.outside(NEW, 1, 30, (x, units) -> x.supply(units), NONE);
    }

    private static void promise18_itIsSo() {
        Edges.refused(NEW, x -> x.supply(10), NONE);
        Edges.refused("supply 30;reserve 0;", x -> x.supply(30), NONE);
    }

    // ---- 19: reserve

    private static void promise19_0And99Stand() {
        Edges.acts(NEW, x -> x.reserve(99), 0, "supply 10;reserve 99;");
        Edges.acts("supply 10;reserve 99;", x -> x.reserve(0), 99, NEW);
    }

    private static void promise19_outOfBounds() {
        Edges.outside(NEW, 0, 99, (x, price) -> x.reserve(price), NONE);
    }

    private static void promise19_itIsSo() {
        Edges.refused(NEW, x -> x.reserve(0), NONE);
        Edges.refused("supply 10;reserve 99;", x -> x.reserve(99), NONE);
    }

    // ---- 20: undo

    private static void promise20_noneOfANewObject() {
        ClinchClock x = new ClinchClock();
        Edges.due(x.undo(), NONE);
        Edges.due(Edges.spelt(x), NEW);
    }

    private static void promise20_theOnlyOneLeaves0() {
        ClinchClock x = new ClinchClock();
        x.join();
        Edges.due(x.undo(), 0);
        Edges.due(x.undo(), NONE);
    }

    private static void promise20_of12Leaves11() {
        Edges.due(Edges.built(Edges.FULL).undo(), 11);
    }

    private static void promise20_theThirteenthCantBeTakenBack() {
        ClinchClock x = new ClinchClock();
        for (int units = 11; units <= 23; units++) {
            x.supply(units);
        }
        for (int i = 0; i < 12; i++) {
            x.undo();
        }
        Edges.due(x.undo(), NONE);
        Edges.due(x.count(1), 11);
    }

    private static void promise20_behindUndoneOnesTwelveMoreCanBe() {
        ClinchClock x = new ClinchClock();
        for (int units = 11; units <= 25; units++) {
            x.supply(units);
        }
        for (int i = 0; i < 5; i++) {
            x.undo();
        }
        Edges.due(x.count(1), 20);
        for (int price = 1; price <= 12; price++) {
            x.reserve(price);
        }
        Edges.due(x.count(4), 12);
        for (int left = 11; left >= 0; left--) {
            Edges.due(x.undo(), left);
        }
        Edges.due(x.undo(), NONE);
        Edges.due(x.count(1), 20);
        Edges.due(x.count(2), 0);
    }

    private static void promise20_theRecordIsAsItWas() {
        ClinchClock x = Edges.clock(Edges.RISING);
        x.hold(0);
        x.hold(1);
        Edges.due(x.undo(), 1);
        Edges.due(x.count(7), 1);
        Edges.due(x.record(0, 2), 16);
        Edges.due(x.undo(), 0);
        Edges.due(x.count(7), 0);
        Edges.due(x.record(0, 2), NONE);
    }

    private static void promise20_theLineThatANinthPushedOutIsThereAgain() {
        ClinchClock x = new ClinchClock();
        x.reserve(5);
        x.hold(3);
        x.reserve(6);
        for (int i = 0; i < 7; i++) {
            x.hold(0);
        }
        Edges.due(x.record(7, 0), 5);
        x.hold(1);
        Edges.due(x.record(7, 0), 6);
        x.undo();
        Edges.due(x.record(7, 0), 5);
        Edges.due(x.record(7, 3), 3);
        Edges.due(x.record(0, 3), 0);
    }

    private static void promise20_anActThatIsNoHoldLeavesTheRecord() {
        ClinchClock x = new ClinchClock();
        x.hold(2);
        x.join();
        x.undo();
        Edges.due(x.count(7), 1);
        Edges.due(x.record(0, 3), 2);
    }

    private static void promise20_aRefusedCallIsNotTakenBack() {
        ClinchClock x = new ClinchClock();
        x.join();
        x.leave(5);
        x.value(0, 100);
        x.hold(4);
        Edges.due(x.undo(), 0);
        Edges.due(x.count(0), 0);
    }

    private static void promise20_theAuctionIsAsItWas() {
        ClinchClock x = Edges.clock(Edges.RISING);
        Edges.due(x.result(0), 5);
        x.supply(1);
        Edges.due(x.result(0), 8);
        x.undo();
        Edges.due(x.result(0), 5);
    }

    private static void promise20_whoCameIsGoneAltogether() {
        ClinchClock x = Edges.clock("supply 4;reserve 0;bidder 9 5;");
        x.join();
        x.value(1, 8);
        x.value(1, 3);
        Edges.due(x.result(1), 4);
        x.undo();
        x.undo();
        Edges.due(x.undo(), 0);
        onlyTheFirstIsThere(x);
    }

    private static void promise20_theTapeStays() {
        ClinchClock x = new ClinchClock();
        x.join();
        Edges.feed(x, "supply 3;");
        x.undo();
        Edges.due(x.count(5), 9);
        Edges.due(x.text(), 0);
        Edges.due(x.count(1), 3);
    }

    private static void promise20_ofEightFullBidders() {
        ClinchClock x = Edges.clock(Edges.FULL);
        x.leave(0);
        x.undo();
        Edges.due(Edges.spelt(x), Edges.FULL);
    }
}
