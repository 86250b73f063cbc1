/** The edges of promises 58 to 60: spell, report, count. */
public final class TextsEdgesTest {
    private static final int NONE = Edges.NONE;
    private static final int NOTHING = Edges.NOTHING;
    private static final int BIG = Edges.BIG;
    private static final int SMALL = Edges.SMALL;
    private static final String NEW = Edges.EMPTY;
    private static final String FULL = Edges.FULL;

    private TextsEdgesTest() {
    }

    public static void main(String[] args) {
        Edges.run(TextsEdgesTest.class, 58, 60);
    }

    // ---- 58: spell

    private static void promise58_howManyBytes() {
        Edges.answers(NEW, x -> x.spell(NONE), 20);
        Edges.answers(FULL, x -> x.spell(NONE), 20 + 8 * 37);
    }

    private static void promise58_ofANewObject() {
        Edges.due(Edges.spelt(new ClinchClock()), "supply 10;reserve 0;");
    }

    private static void promise58_theFirstAndTheLastByte() {
        Edges.answers(FULL, x -> x.spell(0), 's');
        Edges.answers(FULL, x -> x.spell(20 + 8 * 37 - 1), ';');
    }

    private static void promise58_thereAreNotSoMany() {
        Edges.answers(NEW, x -> x.spell(20), NOTHING);
        Edges.answers(FULL, x -> x.spell(20 + 8 * 37), NOTHING);
        Edges.answers(FULL, x -> x.spell(BIG), NOTHING);
    }

    private static void promise58_oneAnswerLeavesNothingForTheNext() {
        ClinchClock x = new ClinchClock();
        Edges.due(x.spell(0), 's');
        Edges.due(x.spell(20), NOTHING);
        Edges.due(x.spell(NONE), 20);
        Edges.due(x.spell(-2), NONE);
        Edges.due(x.spell(19), ';');
    }

    private static void promise58_belowNone() {
        Edges.refused(NEW, x -> x.spell(-2), NONE);
        Edges.refused(NEW, x -> x.spell(SMALL), NONE);
    }

    private static void promise58_capIsToldIfItIsNot8() {
        String text = NEW + "bidder cap 0;bidder cap 7;bidder 5;bidder 5 cap 1;";
        Edges.due(Edges.spelt(Edges.clock(text)), text);
        Edges.due(Edges.spelt(Edges.clock("bidder cap 8;")), NEW + "bidder;");
    }

    private static void promise58_numbersOfOneAndTwoDigits() {
        String text = "supply 1;reserve 99;bidder 99 10 9 0;";
        Edges.due(Edges.spelt(Edges.clock(text)), text);
        Edges.due(Edges.spelt(Edges.clock("supply 01;reserve 00;bidder 09 00;")), "supply 1;reserve 0;bidder 9 0;");
    }

    private static void promise58_noBlanksNoLineEndsMoreThanNeeded() {
        Edges.due(Edges.spelt(Edges.clock("\n supply  3 ;\nbidder   5\n4 ; ")), "supply 3;reserve 0;bidder 5 4;");
    }

    private static void promise58_ofEightFullBidders() {
        Edges.due(Edges.spelt(Edges.clock(FULL)), FULL);
    }

    // ---- 59: report

    private static void promise59_ofANewObject() {
        Edges.answers(NEW, x -> x.report(0, NONE), 14);
        Edges.due(Edges.reported(new ClinchClock(), 0), "end 0;left 10;");
    }

    private static void promise59_byEachKind() {
        String[] due = {"end 5;0 has 2 pays 7;1 has 1 pays 4;2 has 1 pays 5;left 0;",
            "end 5;0 has 2 pays 10;1 has 1 pays 5;2 has 1 pays 5;left 0;",
            "end 5;0 has 2 pays 15;1 has 1 pays 8;2 has 1 pays 7;left 0;",
            "end 5;0 has 2 pays 7;1 has 1 pays 4;2 has 1 pays 5;left 0;"};
        for (int kind = 0; kind < 4; kind++) {
            Edges.due(Edges.reported(Edges.clock(Edges.RISING), kind), due[kind]);
        }
    }

    private static void promise59_whoHasNoUnitsIsNotTold() {
        Edges.due(Edges.reported(Edges.clock(Edges.SPARE), 0), "end 3;0 has 2 pays 6;left 4;");
        Edges.due(Edges.reported(Edges.clock("supply 1;bidder 4;bidder;bidder 5;"), 0), "end 4;2 has 1 pays 4;left 0;");
    }

    private static void promise59_whoPays0IsTold() {
        Edges.due(Edges.reported(Edges.clock("bidder 0;"), 2), "end 0;0 has 1 pays 0;left 9;");
    }

    private static void promise59_numbersOfThreeDigits() {
        Edges.due(Edges.reported(Edges.clock("supply 30;bidder 99 99 99 99 99 99 99 99;"), 2),
            "end 0;0 has 8 pays 792;left 22;");
        Edges.due(Edges.reported(Edges.clock("bidder 50 50;"), 2), "end 0;0 has 2 pays 100;left 8;");
        Edges.due(Edges.reported(Edges.clock("bidder 50 49;"), 2), "end 0;0 has 2 pays 99;left 8;");
    }

    private static void promise59_anEndOf99() {
        Edges.due(Edges.reported(Edges.clock("supply 1;reserve 99;bidder 99;"), 1), "end 99;0 has 1 pays 99;left 0;");
    }

    private static void promise59_ofEightFullBidders() {
        StringBuilder due = new StringBuilder("end 70;");
        for (int b = 0; b < 8; b++) {
            due.append(b).append(b < 6 ? " has 4 pays 260;" : " has 3 pays 190;");
        }
        Edges.due(Edges.reported(Edges.clock(FULL), 0), due + "left 0;");
    }

    private static void promise59_theFirstAndTheLastByte() {
        Edges.answers(NEW, x -> x.report(3, 0), 'e');
        Edges.answers(NEW, x -> x.report(3, 13), ';');
    }

    private static void promise59_thereAreNotSoMany() {
        Edges.row(NEW, (x, kind) -> x.report(kind, 14), NOTHING, NOTHING, NOTHING, NOTHING, NONE);
        Edges.answers(NEW, x -> x.report(0, BIG), NOTHING);
    }

    private static void promise59_oneAnswerLeavesNothingForTheNext() {
        ClinchClock x = new ClinchClock();
        Edges.due(x.spell(0), 's');
        Edges.due(x.report(0, 14), NOTHING);
        Edges.due(x.report(0, 0), 'e');
        Edges.due(x.report(0, 14), NOTHING);
        Edges.due(x.report(0, NONE), 14);
        Edges.due(x.report(0, -2), NONE);
    }

    private static void promise59_belowNone() {
        Edges.refused(NEW, x -> x.report(0, -2), NONE);
        Edges.refused(NEW, x -> x.report(0, SMALL), NONE);
    }

    private static void promise59_noSuchKind() {
        Edges.noSuchKind(Edges.RISING, (x, kind) -> x.report(kind, NONE), NONE);
        Edges.noSuchKind(Edges.RISING, (x, kind) -> x.report(kind, 0), NONE);
        Edges.noSuchKind(Edges.RISING, (x, kind) -> x.report(kind, BIG), NONE);
    }

    // ---- 60: count

    private static void counts(ClinchClock x, int... due) {
        for (int what = 0; what < due.length; what++) {
            Edges.due(x.count(what), due[what]);
        }
    }

    private static void promise60_ofANewObject() {
        counts(new ClinchClock(), 0, 10, 0, 0, 0, 0, NOTHING, 0, 0, 0, NONE);
    }

    private static void promise60_ofEightFullBidders() {
        counts(Edges.clock(FULL), 8, 30, 0, 64, 0, 0, 98, 0, 0, 56, NONE);
    }

    private static void promise60_ofSomeWithoutValues() {
        counts(Edges.clock(Edges.SPARE), 3, 6, 3, 4, 0, 0, 9, 0, 1, 3, NONE);
    }

    private static void promise60_actsTapeAndRecordAtTheirMost() {
        ClinchClock x = Edges.built(Edges.RISING);
        Edges.due(x.count(4), 12);
        Edges.due(x.count(5), 20);
        Edges.due(x.count(7), 8);
        for (int i = 0; i < 25; i++) {
            x.feed(0, 0, 0, 0, 0);
        }
        Edges.due(x.count(5), 500);
    }

    private static void promise60_noGreatestValueWithoutValues() {
        Edges.answers(NEW + "bidder;bidder;", x -> x.count(6), NOTHING);
        Edges.answers(NEW + "bidder;bidder;", x -> x.count(8), 2);
    }

    private static void promise60_aGreatestValueOf0() {
        Edges.answers(NEW + "bidder;bidder 0;", x -> x.count(6), 0);
    }

    private static void promise60_theGreatestValueIsOneBeyondACapToo() {
        Edges.answers(NEW + "bidder 5;bidder 99 cap 0;", x -> x.count(6), 99);
    }

    private static void promise60_unitsTakenAt0ByCaps() {
        Edges.answers(NEW + "bidder 3 0 0;bidder 0 0 cap 1;bidder 5 cap 0;", x -> x.count(9), 4);
    }

    private static void promise60_noneForOthers() {
        Edges.outside(Edges.RISING, 0, 9, (x, what) -> x.count(what), NONE);
    }

    private static void promise60_asCountsRiseAndFall() {
        ClinchClock x = new ClinchClock();
        x.join();
        x.value(0, 7);
        counts(x, 1, 10, 0, 1, 2, 0, 7, 0, 0, 1);
        x.clear(0);
        counts(x, 1, 10, 0, 0, 3, 0, NOTHING, 0, 1, 0);
        x.undo();
        counts(x, 1, 10, 0, 1, 2, 0, 7, 0, 0, 1);
        x.hold(0);
        counts(x, 1, 10, 0, 0, 3, 0, NOTHING, 1, 1, 0);
    }
}
