/** The edges of promises 1 to 4: a new object, and what is told by the tape. */
public final class ToldEdgesTest {
    private static final int NONE = Edges.NONE;

    private ToldEdgesTest() {
    }

    public static void main(String[] args) {
        Edges.run(ToldEdgesTest.class, 1, 4);
    }

    private static ClinchClock withBytes(int n) {
        ClinchClock x = new ClinchClock();
        for (int fed = 0; fed < n; fed += 20) {
            x.feed(0x20202020, 0x20202020, 0x20202020, 0x20202020, 0x20202020);
        }
        x.back((20 - n % 20) % 20);
        return x;
    }

    // ---- 1: a new object

    private static void promise01_noBidders() {
        Edges.due(new ClinchClock().count(0), 0);
        Edges.due(new ClinchClock().of(0, 0), NONE);
    }

    private static void promise01_supply10() {
        Edges.due(new ClinchClock().count(1), 10);
    }

    private static void promise01_reserve0() {
        Edges.due(new ClinchClock().count(2), 0);
    }

    private static void promise01_nothingToUndoNoTapeNoRecord() {
        Edges.due(new ClinchClock().count(4), 0);
        Edges.due(new ClinchClock().count(5), 0);
        Edges.due(new ClinchClock().count(7), 0);
    }

    private static void promise01_oneObjectKnowsNothingOfAnother() {
        ClinchClock x = Edges.built(Edges.RISING);
        Edges.due(x.count(0), 3);
        Edges.due(Edges.spelt(new ClinchClock()), Edges.EMPTY);
    }

    // ---- 2: feed

    private static void promise02_twentyBytesComeToAnEmptyTape() {
        Edges.due(new ClinchClock().feed(0, 0, 0, 0, 0), 20);
    }

    private static void promise02_theHighestByteOfAIsTheFirst() {
        ClinchClock x = new ClinchClock();
        // "supply 25;reserve 9;"
        x.feed(0x73757070, 0x6c792032, 0x353b7265, 0x73657276, 0x6520393b);
        Edges.due(x.text(), 0);
        Edges.due(Edges.spelt(x), "supply 25;reserve 9;");
    }

    private static void promise02_eachByteHasItsPlace() {
        int blanks = 0x20202020;
        for (int at = 0; at < 20; at++) {
            int[] n = {blanks, blanks, blanks, blanks, blanks};
            n[at / 4] ^= (0x20 ^ 'x') << 24 - at % 4 * 8;
            ClinchClock x = new ClinchClock();
            x.feed(n[0], n[1], n[2], n[3], n[4]);
            Edges.due(x.text(), -4 - at);
        }
    }

    private static void promise02_allBitsOfAByteCount() {
        ClinchClock x = new ClinchClock();
        Edges.due(x.feed(-1, -1, -1, -1, -1), 20);
        Edges.due(x.text(), -4);
        Edges.due(x.feed(Edges.SMALL, 0, 0, 0, Edges.BIG), 20);
        Edges.due(x.text(), -4);
    }

    private static void promise02_bytesComeBehindThoseThatAreThere() {
        ClinchClock x = new ClinchClock();
        Edges.feed(x, "supply 2;");
        Edges.feed(x, "reserve 3;");
        Edges.due(x.count(5), 19);
        x.text();
        Edges.due(Edges.spelt(x), "supply 2;reserve 3;");
    }

    private static void promise02_500BytesStand() {
        Edges.due(withBytes(480).feed(1, 2, 3, 4, 5), 500);
    }

    private static void promise02_moreThan500AreRefused() {
        ClinchClock x = withBytes(500);
        Edges.due(x.feed(1, 2, 3, 4, 5), NONE);
        Edges.due(x.count(5), 500);
        Edges.due(x.text(), 0);
    }

    private static void promise02_501AreRefused() {
        ClinchClock x = withBytes(481);
        Edges.due(x.feed(1, 2, 3, 4, 5), NONE);
        Edges.due(x.count(5), 481);
        Edges.due(x.text(), 0);
    }

    private static void promise02_499AreRefusedNone() {
        Edges.due(withBytes(479).feed(1, 2, 3, 4, 5), 499);
    }

    private static void promise02_behindARefusalThereIsRoomOnceBytesHaveGone() {
        ClinchClock x = withBytes(500);
        Edges.due(x.feed(1, 2, 3, 4, 5), NONE);
        Edges.due(x.back(20), 480);
        Edges.due(x.feed(1, 2, 3, 4, 5), 500);
    }

    private static void promise02_behindTextThereIsRoom() {
        ClinchClock x = withBytes(500);
        x.text();
        Edges.due(x.feed(1, 2, 3, 4, 5), 20);
    }

    // ---- 3: back

    private static void promise03_noBytesGo() {
        Edges.due(withBytes(20).back(0), 20);
        Edges.due(new ClinchClock().back(0), 0);
    }

    private static void promise03_allBytesGo() {
        Edges.due(withBytes(20).back(20), 0);
        Edges.due(withBytes(500).back(500), 0);
    }

    private static void promise03_moreThanItHasAreRefused() {
        ClinchClock x = withBytes(20);
        Edges.due(x.back(21), NONE);
        Edges.due(x.back(Edges.BIG), NONE);
        Edges.due(x.count(5), 20);
    }

    private static void promise03_oneOfAnEmptyTapeIsRefused() {
        ClinchClock x = new ClinchClock();
        Edges.due(x.back(1), NONE);
        Edges.due(x.count(5), 0);
    }

    private static void promise03_below0IsRefused() {
        ClinchClock x = withBytes(20);
        Edges.due(x.back(-1), NONE);
        Edges.due(x.back(Edges.SMALL), NONE);
        Edges.due(x.count(5), 20);
    }

    private static void promise03_aRefusalLeavesAllElse() {
        Edges.refused(Edges.RISING, x -> x.back(501), NONE);
        Edges.refused(Edges.RISING, x -> x.back(-1), NONE);
    }

    private static void promise03_theLastBytesGo() {
        ClinchClock x = new ClinchClock();
        Edges.feed(x, "supply 2;reserve 3;");
        Edges.due(x.back(10), 9);
        x.text();
        Edges.due(Edges.spelt(x), "supply 2;reserve 0;");
    }

    private static void promise03_whatComesThenComesInTheirPlace() {
        ClinchClock x = new ClinchClock();
        Edges.feed(x, "supply 2");
        x.back(1);
        Edges.feed(x, "3;");
        x.text();
        Edges.due(Edges.spelt(x), "supply 3;reserve 0;");
    }

    private static void promise03_whatIsToldStays() {
        ClinchClock x = Edges.clock(Edges.RISING);
        x.feed(1, 2, 3, 4, 5);
        x.back(20);
        Edges.due(Edges.spelt(x), Edges.RISING);
    }

    // ---- 4: text

    private static void promise04_anEmptyTapeIsATextOfNobody() {
        ClinchClock x = Edges.clock(Edges.RISING);
        Edges.due(x.text(), 0);
        Edges.due(Edges.spelt(x), Edges.EMPTY);
    }

    private static void promise04_allAnew() {
        Edges.stands("bidder 3;", "supply 10;reserve 0;bidder 3;");
        Edges.stands("supply 2;", "supply 2;reserve 0;");
        Edges.stands("reserve 2;", "supply 10;reserve 2;");
    }

    private static void promise04_theAuctionIsAnewToo() {
        ClinchClock x = Edges.clock(Edges.RISING);
        Edges.due(x.result(0), 5);
        Edges.feed(x, "reserve 7;");
        x.text();
        Edges.due(x.result(0), 7);
    }

    private static void promise04_answersHowManyBidders() {
        for (int n = 0; n <= 8; n++) {
            ClinchClock x = new ClinchClock();
            Edges.feed(x, "bidder 1;".repeat(n));
            Edges.due(x.text(), n);
        }
    }

    private static void promise04_theTapeIsEmptyThen() {
        ClinchClock x = new ClinchClock();
        Edges.feed(x, "bidder 3;");
        x.text();
        Edges.due(x.count(5), 0);
        Edges.due(x.back(1), NONE);
    }

    private static void promise04_theTapeIsEmptyBehindAFaultToo() {
        ClinchClock x = new ClinchClock();
        Edges.feed(x, "bidder 3;x");
        Edges.due(x.text(), -13);
        Edges.due(x.count(5), 0);
        Edges.feed(x, "bidder 3;");
        Edges.due(x.text(), 1);
    }

    private static void promise04_aFaultAt0IsMinus4() {
        Edges.fault("x", 0);
    }

    private static void promise04_aFaultAtTheLengthOfAFullTapeIsMinus504() {
        Edges.fault("supply 3" + " ".repeat(492), 500);
    }

    private static void promise04_aFullTapeStands() {
        Edges.stands(" ".repeat(491) + "supply 3;", "supply 3;reserve 0;");
    }

    private static void promise04_behindAFaultAllElseStays() {
        Edges.same(() -> {
            ClinchClock x = Edges.built(Edges.RISING);
            x.back(x.count(5));
            Edges.feed(x, "supply 7;reserve 8;bidder 3;bidder 3 4;");
            Edges.due(x.text(), -4 - 37);
            return x;
        }, () -> {
            ClinchClock x = Edges.built(Edges.RISING);
            x.back(x.count(5));
            return x;
        });
    }

    private static void promise04_aFaultDoesNotForgetActsOrRecord() {
        ClinchClock x = Edges.built(Edges.RISING);
        Edges.feed(x, "x");
        Edges.due(x.text(), -24);
        Edges.due(x.count(4), 12);
        Edges.due(x.count(7), 8);
    }

    private static void promise04_isNoAct() {
        ClinchClock x = Edges.clock(Edges.RISING);
        Edges.due(x.count(4), 0);
        Edges.due(x.undo(), NONE);
    }

    private static void promise04_actsBehindItAreUndoneToItAlone() {
        ClinchClock x = Edges.built(Edges.FULL);
        x.text();
        x.join();
        Edges.due(x.undo(), 0);
        Edges.due(x.undo(), NONE);
        Edges.due(Edges.spelt(x), "supply 7;reserve 0;bidder 3 2;");
    }

    private static void promise04_whatItSpellsItReads() {
        Edges.stands(Edges.FULL, Edges.FULL);
        Edges.stands(Edges.SPARE, Edges.SPARE);
        Edges.stands(Edges.EMPTY, Edges.EMPTY);
    }
}
