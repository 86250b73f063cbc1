/** A clinching auction on a rising clock; ../shared/DOC.md tells what each call answers. */
public final class ClinchClock {
    public static final int NONE = -1;

    private static final int NOTHING = -2;
    private static final int NO_GAIN = -100000;
    private static final int FAULT_BASE = -4;
    // No payments or gains, of eight bidders with eight values, come near these.
    private static final int BELOW_ALL = -1000000;
    private static final int ABOVE_ALL = 1000000;

    private static final int MOST_BIDDERS = 8;
    private static final int MOST_VALUES = 8;
    private static final int MOST_CAP = 8;
    private static final int MOST_UNITS = 30;
    private static final int TOP_PRICE = 99;
    private static final int MOST_HIDDEN = 20;
    private static final int FIRST_SUPPLY = 10;
    private static final int FIRST_RESERVE = 0;

    // splitGain() asks for a bidder more than there can be.
    private static final int ROOM = MOST_BIDDERS + 1;

    private static final int CLINCHED = 0;
    private static final int ONE = 1;
    private static final int OWN = 2;
    private static final int HARM = 3;

    private final TextReader reader = new TextReader();
    private final Tape tape = reader.tape;
    private final Auction held = new Auction();
    private final Book book = held.book;
    private final Ledger ledger = new Ledger();
    private final History history = new History();
    // Things as they WERE: each such call makes them anew from the book.
    private final Auction were = new Auction();
    private final Book trial = were.book;
    private final Pen pen = new Pen();
    private boolean stale = true;

    public ClinchClock() {
    }

    // ---- told

    public int feed(int a, int b, int c, int d, int e) {
        if (!tape.hasRoomFor(20)) {
            return NONE;
        }
        tape.put(a);
        tape.put(b);
        tape.put(c);
        tape.put(d);
        tape.put(e);
        return tape.length;
    }

    public int back(int n) {
        if (n < 0 || n > tape.length) {
            return NONE;
        }
        tape.length -= n;
        return tape.length;
    }

    public int text() {
        int fault = reader.read(trial);
        tape.length = 0;
        if (fault >= 0) {
            return FAULT_BASE - fault;
        }
        book.takeFrom(trial);
        ledger.lines = 0;
        history.kept = 0;
        stale = true;
        return book.bidders;
    }

    // ---- acts

    public int join() {
        if (book.bidders >= MOST_BIDDERS) {
            return NONE;
        }
        remember();
        return book.addBidder();
    }

    public boolean leave(int bidder) {
        if (!book.has(bidder)) {
            return false;
        }
        remember();
        book.removeBidder(bidder);
        return true;
    }

    public int value(int bidder, int v) {
        if (!book.has(bidder) || !isPrice(v) || book.counts[bidder] >= MOST_VALUES) {
            return NONE;
        }
        remember();
        book.insertValue(bidder, v);
        return book.counts[bidder];
    }

    public int without(int bidder, int i) {
        if (!book.hasValue(bidder, i)) {
            return NONE;
        }
        remember();
        book.removeValue(bidder, i);
        return book.counts[bidder];
    }

    public int cap(int bidder, int cap) {
        if (!book.has(bidder) || cap < 0 || cap > MOST_CAP || cap == book.caps[bidder]) {
            return NONE;
        }
        remember();
        int was = book.caps[bidder];
        book.caps[bidder] = cap;
        return was;
    }

    public int change(int bidder, int i, int v) {
        if (!book.hasValue(bidder, i) || !isPrice(v) || v == book.valueAt(bidder, i)) {
            return NONE;
        }
        remember();
        int was = book.valueAt(bidder, i);
        book.removeValue(bidder, i);
        book.insertValue(bidder, v);
        return was;
    }

    public int split(int bidder, int n) {
        if (!book.canSplit(bidder, n) || book.bidders >= MOST_BIDDERS) {
            return NONE;
        }
        remember();
        return book.splitOff(bidder, n);
    }

    public boolean move(int bidder, int to) {
        if (!book.hasTwo(bidder, to)) {
            return false;
        }
        remember();
        book.moveBidder(bidder, to);
        return true;
    }

    public int copy(int bidder) {
        if (!book.has(bidder) || book.bidders >= MOST_BIDDERS) {
            return NONE;
        }
        remember();
        int number = book.addBidder();
        book.setLike(number, book, bidder);
        return number;
    }

    public int clear(int bidder) {
        if (!book.has(bidder) || book.counts[bidder] == 0) {
            return NONE;
        }
        remember();
        int gone = book.counts[bidder];
        book.counts[bidder] = 0;
        return gone;
    }

    public int hold(int kind) {
        if (!isKind(kind)) {
            return NONE;
        }
        Auction now = now();
        remember();
        ledger.write(now.end, now.soldUnits, now.paidByAll(kind), kind);
        book.handOver(now.units);
        return now.soldUnits;
    }

    public int shade(int bidder, int by) {
        if (!book.has(bidder) || by > TOP_PRICE || by < -TOP_PRICE) {
            return NONE;
        }
        int changed = book.changedBy(bidder, by);
        if (changed == 0) {
            return NONE;
        }
        remember();
        book.shift(bidder, by);
        return changed;
    }

    public boolean swap(int bidder, int other) {
        if (!book.hasTwo(bidder, other)) {
            return false;
        }
        remember();
        book.exchange(bidder, other);
        return true;
    }

    public int supply(int units) {
        if (!isSupply(units) || units == book.supply) {
            return NONE;
        }
        remember();
        int was = book.supply;
        book.supply = units;
        return was;
    }

    public int reserve(int price) {
        if (!isPrice(price) || price == book.reserve) {
            return NONE;
        }
        remember();
        int was = book.reserve;
        book.reserve = price;
        return was;
    }

    public int undo() {
        if (history.kept == 0) {
            return NONE;
        }
        history.pop(book, ledger);
        stale = true;
        return history.kept;
    }

    // ---- asked

    public int of(int bidder, int what) {
        if (!book.has(bidder)) {
            return NONE;
        }
        Auction now = now();
        switch (what) {
            case 0: return book.counts[bidder];
            case 1: return book.caps[bidder];
            case 2: return now.units[bidder];
            case 3: return now.valueOfUnits(bidder);
            case 4: return now.units[bidder] - now.clocked[bidder];
            case 5: return now.clocked[bidder] == 0 ? NOTHING : now.unitPrice(bidder, 0);
            default: return NONE;
        }
    }

    public int valueOf(int bidder, int i) {
        return book.hasValue(bidder, i) ? book.valueAt(bidder, i) : NONE;
    }

    public int unit(int bidder, int i) {
        if (!book.has(bidder) || i < 0) {
            return NONE;
        }
        Auction now = now();
        return i < now.units[bidder] ? now.unitPrice(bidder, i) : NOTHING;
    }

    public int pays(int bidder, int kind) {
        return book.has(bidder) && isKind(kind) ? now().payment(bidder, kind) : NONE;
    }

    public int gain(int bidder, int kind) {
        return book.has(bidder) && isKind(kind) ? now().gainOf(bidder, kind) : NO_GAIN;
    }

    public int at(int bidder, int price, int what) {
        if (!book.has(bidder) || !isPrice(price)) {
            return NONE;
        }
        switch (what) {
            case 0: return book.wantsOf(bidder, price);
            case 1: return book.takesOf(bidder, price);
            case 2: return book.freeFor(bidder, price);
            case 3: return now().clinchedBy(bidder, price);
            default: return NONE;
        }
    }

    public int result(int what) {
        return now().tell(what);
    }

    public int paid(int kind) {
        return isKind(kind) ? now().paidByAll(kind) : NONE;
    }

    public int wanted(int price) {
        return isPrice(price) ? book.wantsOfAll(price) : NONE;
    }

    public int sold(int k, int what) {
        Auction now = now();
        if (k < 0 || k >= now.soldUnits) {
            return NONE;
        }
        switch (what) {
            case 0: return now.owners[k];
            case 1: return now.soldAt[k];
            default: return NONE;
        }
    }

    public int worth(int set, int units) {
        if (set < 0 || set > book.everyone() || units < 0 || units > MOST_UNITS) {
            return NONE;
        }
        return book.worthTo(set, units);
    }

    public int clinch(int bidder, int k, int what) {
        if (!book.has(bidder) || k < 0) {
            return NONE;
        }
        switch (what) {
            case 0: return now().clinchPrice(bidder, k);
            case 1: return now().clinchSize(bidder, k);
            default: return NONE;
        }
    }

    public int dearest(int kind) {
        if (!isKind(kind)) {
            return NONE;
        }
        Auction now = now();
        int best = NOTHING;
        int most = BELOW_ALL;
        for (int b = 0; b < book.bidders; b++) {
            int payment = now.payment(b, kind);
            if (payment > most) {
                most = payment;
                best = b;
            }
        }
        return best;
    }

    public int perUnit(int bidder, int kind) {
        if (!book.has(bidder) || !isKind(kind)) {
            return NONE;
        }
        Auction now = now();
        int units = now.units[bidder];
        return units <= 0 ? NOTHING : now.payment(bidder, kind) / units;
    }

    public int alike(int bidder, int other) {
        if (!book.has(bidder) || !book.has(other)) {
            return NONE;
        }
        return book.areAlike(bidder, other) ? 1 : 0;
    }

    public int ranked(int k, int what) {
        if (k < 0 || k >= book.valuesOfAll()) {
            return NONE;
        }
        switch (what) {
            case 0: return book.rankedOwner(k);
            case 1: return book.rankedValue(k);
            default: return NONE;
        }
    }

    public int priceFor(int units) {
        if (units < 0) {
            return NONE;
        }
        for (int price = 0; price < TOP_PRICE; price++) {
            if (book.wantsOfAll(price) <= units) {
                return price;
            }
        }
        return TOP_PRICE;
    }

    public int step(int k, int what) {
        int price = k < 0 ? NONE : book.stepPrice(k);
        if (price == NONE) {
            return NONE;
        }
        switch (what) {
            case 0: return price;
            case 1: return book.wantsOfAll(price);
            case 2: return book.wantingAt(price);
            default: return NONE;
        }
    }

    public int envies(int bidder, int kind) {
        if (!book.has(bidder) || !isKind(kind)) {
            return NONE;
        }
        Auction now = now();
        int own = now.gainOf(bidder, kind);
        for (int other = 0; other < book.bidders; other++) {
            int used = Math.min(now.units[other], book.usable(bidder));
            if (book.sumOfFirst(bidder, used) - now.payment(other, kind) > own) {
                return other;
            }
        }
        return NOTHING;
    }

    public int blocks(int kind) {
        if (!isKind(kind)) {
            return NONE;
        }
        Auction now = now();
        int toSeller = now.paidByAll(kind) + book.reserve * now.unsold();
        int all = book.everyone();
        now.reckonGains(kind);
        for (int set = 1; set <= all; set++) {
            if (book.worthTo(set, book.supply) > toSeller + now.gainOfSet(set)) {
                return set;
            }
        }
        return NOTHING;
    }

    public int record(int k, int what) {
        return ledger.read(k, what);
    }

    // ---- were

    public int bySupply(int units, int what) {
        if (!isSupply(units)) {
            return NONE;
        }
        trial.takeFrom(book);
        trial.supply = units;
        were.run();
        return were.tell(what);
    }

    public int byReserve(int price, int what) {
        if (!isPrice(price)) {
            return NONE;
        }
        supposeReserve(price);
        return were.tell(what);
    }

    public int bestReserve(int kind) {
        if (!isKind(kind)) {
            return NONE;
        }
        int best = 0;
        int most = BELOW_ALL;
        for (int price = 0; price <= TOP_PRICE; price++) {
            supposeReserve(price);
            int all = were.paidByAll(kind);
            if (all > most) {
                most = all;
                best = price;
            }
        }
        return best;
    }

    public int unitsWithout(int bidder, int other) {
        if (!book.hasTwo(bidder, other)) {
            return NONE;
        }
        supposeWithout(other);
        return were.units[placeWithout(bidder, other)];
    }

    public int paidWithout(int bidder, int kind) {
        if (!book.has(bidder) || !isKind(kind)) {
            return NONE;
        }
        supposeWithout(bidder);
        return were.paidByAll(kind);
    }

    public int pivot() {
        int best = NOTHING;
        int least = ABOVE_ALL;
        for (int b = 0; b < book.bidders; b++) {
            supposeWithout(b);
            int all = were.paidByAll(CLINCHED);
            if (all < least) {
                least = all;
                best = b;
            }
        }
        return best;
    }

    public int tells(int bidder, int kind, int n) {
        if (!book.has(bidder) || !isKind(kind) || n < 0 || n > book.counts[bidder]) {
            return NO_GAIN;
        }
        return gainByTelling(bidder, kind, n);
    }

    public int bestTells(int bidder, int kind) {
        if (!book.has(bidder) || !isKind(kind)) {
            return NONE;
        }
        int best = 0;
        int most = BELOW_ALL;
        for (int n = 0; n <= book.counts[bidder]; n++) {
            int gained = gainByTelling(bidder, kind, n);
            if (gained >= most) {
                most = gained;
                best = n;
            }
        }
        return best;
    }

    public int hides(int bidder, int kind, int by) {
        if (!book.has(bidder) || !isKind(kind) || !isPrice(by)) {
            return NO_GAIN;
        }
        return gainByHiding(bidder, kind, by);
    }

    public int bestHides(int bidder, int kind) {
        if (!book.has(bidder) || !isKind(kind)) {
            return NONE;
        }
        int best = 0;
        int most = BELOW_ALL;
        for (int by = 0; by <= MOST_HIDDEN; by++) {
            int gained = gainByHiding(bidder, kind, by);
            if (gained > most) {
                most = gained;
                best = by;
            }
        }
        return best;
    }

    public int inTwo(int units, int kind) {
        if (units < 1 || units >= book.supply || !isKind(kind)) {
            return NONE;
        }
        trial.takeFrom(book);
        trial.supply = units;
        were.run();
        int first = were.paidByAll(kind);
        trial.handOver(were.units);
        trial.supply = book.supply - units;
        were.run();
        return first + were.paidByAll(kind);
    }

    public int splitGain(int bidder, int n, int kind) {
        if (!book.canSplit(bidder, n) || !isKind(kind)) {
            return NO_GAIN;
        }
        int alone = now().payment(bidder, kind);
        trial.takeFrom(book);
        int second = trial.splitOff(bidder, n);
        were.run();
        return alone - were.payment(bidder, kind) - were.payment(second, kind);
    }

    public int reserveFor(int units) {
        if (units < 1) {
            return NONE;
        }
        for (int price = 0; price <= TOP_PRICE; price++) {
            supposeReserve(price);
            if (were.unsold() >= units) {
                return price;
            }
        }
        return NOTHING;
    }

    public int collude(int bidder, int other, int kind) {
        if (!book.hasTwo(bidder, other) || !isKind(kind)) {
            return NO_GAIN;
        }
        int apart = now().payment(bidder, kind) + now().payment(other, kind);
        trial.takeFrom(book);
        trial.merge(bidder, other);
        trial.removeBidder(other);
        were.run();
        return apart - were.payment(placeWithout(bidder, other), kind);
    }

    public int supplyFor(int price) {
        if (!isPrice(price)) {
            return NONE;
        }
        trial.takeFrom(book);
        for (int units = 1; units <= MOST_UNITS; units++) {
            trial.supply = units;
            were.run();
            if (were.end <= price) {
                return units;
            }
        }
        return NOTHING;
    }

    public int valueFor(int bidder) {
        if (!book.has(bidder) || book.counts[bidder] >= MOST_VALUES) {
            return NONE;
        }
        int has = now().units[bidder];
        for (int v = 0; v <= TOP_PRICE; v++) {
            trial.takeFrom(book);
            trial.insertValue(bidder, v);
            were.run();
            if (were.units[bidder] > has) {
                return v;
            }
        }
        return NOTHING;
    }

    // ---- texts

    public int spell(int i) {
        if (i < NONE) {
            return NONE;
        }
        pen.seek(i);
        pen.line("supply ", book.supply);
        pen.line("reserve ", book.reserve);
        for (int b = 0; b < book.bidders; b++) {
            spellBidder(b);
        }
        return pen.answer();
    }

    public int report(int kind, int i) {
        if (!isKind(kind) || i < NONE) {
            return NONE;
        }
        Auction now = now();
        pen.seek(i);
        pen.line("end ", now.end);
        for (int b = 0; b < book.bidders; b++) {
            if (now.units[b] > 0) {
                pen.number(b);
                pen.letters(" has ");
                pen.number(now.units[b]);
                pen.line(" pays ", now.payment(b, kind));
            }
        }
        pen.line("left ", now.unsold());
        return pen.answer();
    }

    public int count(int what) {
        switch (what) {
            case 0: return book.bidders;
            case 1: return book.supply;
            case 2: return book.reserve;
            case 3: return book.valuesOfAll();
            case 4: return history.kept;
            case 5: return tape.length;
            case 6: return book.valuesOfAll() == 0 ? NOTHING : book.rankedValue(0);
            case 7: return ledger.lines;
            case 8: return book.biddersWithoutValues();
            case 9: return book.usableByAll();
            default: return NONE;
        }
    }

    // ---- helpers

    private static boolean isKind(int kind) {
        return kind >= CLINCHED && kind <= HARM;
    }

    private static boolean isPrice(int price) {
        return price >= 0 && price <= TOP_PRICE;
    }

    private static boolean isSupply(int units) {
        return units >= 1 && units <= MOST_UNITS;
    }

    /** The number that a bidder has once another one has gone. */
    private static int placeWithout(int bidder, int gone) {
        return gone < bidder ? bidder - 1 : bidder;
    }

    private void remember() {
        history.push(book, ledger);
        stale = true;
    }

    /** The auction of things as they are; it is run again only behind a change. */
    private Auction now() {
        if (stale) {
            held.run();
            stale = false;
        }
        return held;
    }

    private void supposeReserve(int price) {
        trial.takeFrom(book);
        trial.reserve = price;
        were.run();
    }

    private void supposeWithout(int bidder) {
        trial.takeFrom(book);
        trial.removeBidder(bidder);
        were.run();
    }

    // What is paid follows from what was told, what the units are worth from the true values.

    private int gainByTelling(int bidder, int kind, int n) {
        trial.takeFrom(book);
        trial.counts[bidder] = n;
        were.run();
        return book.sumOfFirst(bidder, were.units[bidder]) - were.payment(bidder, kind);
    }

    private int gainByHiding(int bidder, int kind, int by) {
        trial.takeFrom(book);
        trial.shift(bidder, -by);
        were.run();
        return book.sumOfFirst(bidder, were.units[bidder]) - were.payment(bidder, kind);
    }

    private void spellBidder(int bidder) {
        pen.letters("bidder");
        for (int i = 0; i < book.counts[bidder]; i++) {
            pen.letters(" ");
            pen.number(book.valueAt(bidder, i));
        }
        if (book.caps[bidder] != MOST_CAP) {
            pen.letters(" cap ");
            pen.number(book.caps[bidder]);
        }
        pen.letters(";");
    }

    /** Supply, reserve and bidders: all that a TEXT tells. Who calls has looked at the numbers. */
    private static final class Book {
        static final int SIZE = 3 + ROOM + ROOM + ROOM * MOST_VALUES;

        int supply = FIRST_SUPPLY;
        int reserve = FIRST_RESERVE;
        int bidders = 0;
        final int[] counts = new int[ROOM];
        final int[] caps = new int[ROOM];
        final int[] values = new int[ROOM * MOST_VALUES];
        private final int[] passed = new int[ROOM];
        private final int[] limits = new int[ROOM];

        void restart() {
            supply = FIRST_SUPPLY;
            reserve = FIRST_RESERVE;
            bidders = 0;
        }

        void takeFrom(Book other) {
            supply = other.supply;
            reserve = other.reserve;
            bidders = other.bidders;
            for (int b = 0; b < bidders; b++) {
                setLike(b, other, b);
            }
        }

        void storeIn(int[] cells, int from) {
            cells[from] = supply;
            cells[from + 1] = reserve;
            cells[from + 2] = bidders;
            System.arraycopy(counts, 0, cells, from + 3, ROOM);
            System.arraycopy(caps, 0, cells, from + 3 + ROOM, ROOM);
            System.arraycopy(values, 0, cells, from + 3 + ROOM + ROOM, ROOM * MOST_VALUES);
        }

        void loadFrom(int[] cells, int from) {
            supply = cells[from];
            reserve = cells[from + 1];
            bidders = cells[from + 2];
            System.arraycopy(cells, from + 3, counts, 0, ROOM);
            System.arraycopy(cells, from + 3 + ROOM, caps, 0, ROOM);
            System.arraycopy(cells, from + 3 + ROOM + ROOM, values, 0, ROOM * MOST_VALUES);
        }

        boolean has(int bidder) {
            return bidder >= 0 && bidder < bidders;
        }

        boolean hasTwo(int bidder, int other) {
            return has(bidder) && has(other) && bidder != other;
        }

        boolean hasValue(int bidder, int i) {
            return has(bidder) && i >= 0 && i < counts[bidder];
        }

        boolean canSplit(int bidder, int n) {
            return has(bidder) && n >= 1 && n < counts[bidder];
        }

        int valueAt(int bidder, int i) {
            return values[bidder * MOST_VALUES + i];
        }

        int everyone() {
            return (1 << bidders) - 1;
        }

        // -- changes

        int addBidder() {
            int number = bidders;
            counts[number] = 0;
            caps[number] = MOST_CAP;
            bidders++;
            return number;
        }

        void setLike(int bidder, Book from, int other) {
            counts[bidder] = from.counts[other];
            caps[bidder] = from.caps[other];
            System.arraycopy(from.values, other * MOST_VALUES, values, bidder * MOST_VALUES, MOST_VALUES);
        }

        void removeBidder(int bidder) {
            for (int b = bidder; b + 1 < bidders; b++) {
                setLike(b, this, b + 1);
            }
            bidders--;
        }

        void exchange(int bidder, int other) {
            int count = counts[bidder];
            counts[bidder] = counts[other];
            counts[other] = count;
            int cap = caps[bidder];
            caps[bidder] = caps[other];
            caps[other] = cap;
            for (int i = 0; i < MOST_VALUES; i++) {
                int v = valueAt(bidder, i);
                values[bidder * MOST_VALUES + i] = valueAt(other, i);
                values[other * MOST_VALUES + i] = v;
            }
        }

        void moveBidder(int bidder, int to) {
            for (int b = bidder; b < to; b++) {
                exchange(b, b + 1);
            }
            for (int b = bidder; b > to; b--) {
                exchange(b, b - 1);
            }
        }

        int splitOff(int bidder, int n) {
            int number = addBidder();
            caps[number] = caps[bidder];
            counts[number] = n;
            counts[bidder] -= n;
            int from = bidder * MOST_VALUES + counts[bidder];
            System.arraycopy(values, from, values, number * MOST_VALUES, n);
            return number;
        }

        /** A full row keeps its greatest values, as two bidders that are one need it. */
        void insertValue(int bidder, int v) {
            int row = bidder * MOST_VALUES;
            int i = Math.min(counts[bidder], MOST_VALUES - 1);
            if (counts[bidder] >= MOST_VALUES && values[row + i] >= v) {
                return;
            }
            for (; i > 0 && values[row + i - 1] < v; i--) {
                values[row + i] = values[row + i - 1];
            }
            values[row + i] = v;
            counts[bidder] = Math.min(counts[bidder] + 1, MOST_VALUES);
        }

        void removeValue(int bidder, int i) {
            dropValues(bidder, i, 1);
        }

        private void dropValues(int bidder, int from, int n) {
            int row = bidder * MOST_VALUES;
            int behind = counts[bidder] - from - n;
            System.arraycopy(values, row + from + n, values, row + from, behind);
            counts[bidder] -= n;
        }

        void merge(int bidder, int other) {
            for (int i = 0; i < counts[other]; i++) {
                insertValue(bidder, valueAt(other, i));
            }
            caps[bidder] = Math.min(MOST_CAP, caps[bidder] + caps[other]);
        }

        void handOver(int[] units) {
            for (int b = 0; b < bidders; b++) {
                dropValues(b, 0, units[b]);
                caps[b] -= units[b];
            }
        }

        void shift(int bidder, int by) {
            for (int i = 0; i < counts[bidder]; i++) {
                values[bidder * MOST_VALUES + i] = shifted(valueAt(bidder, i), by);
            }
        }

        int changedBy(int bidder, int by) {
            int changed = 0;
            for (int i = 0; i < counts[bidder]; i++) {
                if (shifted(valueAt(bidder, i), by) != valueAt(bidder, i)) {
                    changed++;
                }
            }
            return changed;
        }

        private static int shifted(int v, int by) {
            return Math.max(0, Math.min(TOP_PRICE, v + by));
        }

        // -- wants

        private int valuesAbove(int bidder, int price) {
            int n = 0;
            while (n < counts[bidder] && valueAt(bidder, n) > price) {
                n++;
            }
            return n;
        }

        int wantsOf(int bidder, int price) {
            return Math.min(caps[bidder], valuesAbove(bidder, price));
        }

        int takesOf(int bidder, int price) {
            return Math.min(caps[bidder], valuesAbove(bidder, price - 1));
        }

        int wantsOfAll(int price) {
            int sum = 0;
            for (int b = 0; b < bidders; b++) {
                sum += wantsOf(b, price);
            }
            return sum;
        }

        int freeFor(int bidder, int price) {
            return Math.max(0, supply - (wantsOfAll(price) - wantsOf(bidder, price)));
        }

        int wantingAt(int price) {
            int n = 0;
            for (int b = 0; b < bidders; b++) {
                if (wantsOf(b, price) > 0) {
                    n++;
                }
            }
            return n;
        }

        int stepPrice(int k) {
            int left = k;
            int before = usableByAll();
            for (int price = 0; price <= TOP_PRICE; price++) {
                int wants = wantsOfAll(price);
                if (wants < before && left == 0) {
                    return price;
                }
                if (wants < before) {
                    left--;
                }
                before = wants;
            }
            return NONE;
        }

        // -- values

        int usable(int bidder) {
            return Math.min(counts[bidder], caps[bidder]);
        }

        int usableByAll() {
            int sum = 0;
            for (int b = 0; b < bidders; b++) {
                sum += usable(b);
            }
            return sum;
        }

        int sumOfFirst(int bidder, int n) {
            int sum = 0;
            for (int i = 0; i < n && i < counts[bidder]; i++) {
                sum += valueAt(bidder, i);
            }
            return sum;
        }

        int valuesOfAll() {
            int sum = 0;
            for (int b = 0; b < bidders; b++) {
                sum += counts[b];
            }
            return sum;
        }

        int biddersWithoutValues() {
            int n = 0;
            for (int b = 0; b < bidders; b++) {
                if (counts[b] == 0) {
                    n++;
                }
            }
            return n;
        }

        boolean areAlike(int bidder, int other) {
            if (counts[bidder] != counts[other] || caps[bidder] != caps[other]) {
                return false;
            }
            for (int i = 0; i < counts[bidder]; i++) {
                if (valueAt(bidder, i) != valueAt(other, i)) {
                    return false;
                }
            }
            return true;
        }

        int rankedOwner(int k) {
            for (int b = 0; b < bidders; b++) {
                passed[b] = 0;
                limits[b] = counts[b];
            }
            int owner = nextGreatest(NONE);
            for (int i = 0; i < k && owner != NONE; i++) {
                passed[owner]++;
                owner = nextGreatest(NONE);
            }
            return owner;
        }

        int rankedValue(int k) {
            int owner = rankedOwner(k);
            return owner == NONE ? NONE : valueAt(owner, passed[owner]);
        }

        int worthTo(int set, int units) {
            for (int b = 0; b < bidders; b++) {
                passed[b] = 0;
                limits[b] = (set >> b & 1) == 1 ? usable(b) : 0;
            }
            int sum = 0;
            for (int u = 0; u < units; u++) {
                int owner = nextGreatest(reserve);
                if (owner == NONE) {
                    return sum + (units - u) * reserve;
                }
                sum += valueAt(owner, passed[owner]);
                passed[owner]++;
            }
            return sum;
        }

        /** Whose is the greatest value above a floor that has not been passed, of several the first one's. */
        private int nextGreatest(int floor) {
            int owner = NONE;
            int top = floor;
            for (int b = 0; b < bidders; b++) {
                if (passed[b] < limits[b] && valueAt(b, passed[b]) > top) {
                    top = valueAt(b, passed[b]);
                    owner = b;
                }
            }
            return owner;
        }
    }

    /** One auction of a Book: who got which unit, when, at which price. */
    private static final class Auction {
        final Book book = new Book();
        int end = 0;
        int soldUnits = 0;
        int clockUnits = 0;
        final int[] units = new int[ROOM];
        final int[] clocked = new int[ROOM];
        final int[] prices = new int[ROOM * MOST_VALUES];
        final int[] owners = new int[MOST_UNITS];
        final int[] soldAt = new int[MOST_UNITS];
        private final int[] above = new int[ROOM];
        private final int[] gains = new int[ROOM];

        void run() {
            soldUnits = 0;
            for (int b = 0; b < book.bidders; b++) {
                units[b] = 0;
                above[b] = book.counts[b];
            }
            runClock();
            clockUnits = soldUnits;
            for (int b = 0; b < book.bidders; b++) {
                clocked[b] = units[b];
            }
            shareOut();
        }

        /** Between two values nobody's wants change and nothing is clinched: these prices are passed over. */
        private void runClock() {
            int price = book.reserve;
            int wants = wantsNow(price);
            clinchAll(price, wants);
            for (int shown = 0; shown <= TOP_PRICE && wants > book.supply; shown++) {
                price = leastWanted();
                wants = wantsNow(price);
                clinchAll(price, wants);
            }
            end = price;
        }

        private int wantsNow(int price) {
            int sum = 0;
            for (int b = 0; b < book.bidders; b++) {
                while (above[b] > 0 && book.valueAt(b, above[b] - 1) <= price) {
                    above[b]--;
                }
                sum += wantNow(b);
            }
            return sum;
        }

        private int wantNow(int bidder) {
            return Math.min(above[bidder], book.caps[bidder]);
        }

        private int leastWanted() {
            int least = TOP_PRICE;
            for (int b = 0; b < book.bidders; b++) {
                if (above[b] > 0) {
                    least = Math.min(least, book.valueAt(b, above[b] - 1));
                }
            }
            return least;
        }

        private void clinchAll(int price, int wants) {
            for (int b = 0; b < book.bidders; b++) {
                int own = wantNow(b);
                int clinches = Math.min(own, book.supply - (wants - own));
                for (int u = units[b]; u < clinches; u++) {
                    give(b, price);
                }
            }
        }

        private void shareOut() {
            for (int round = 0; round < MOST_VALUES && soldUnits < book.supply; round++) {
                for (int b = 0; b < book.bidders && soldUnits < book.supply; b++) {
                    if (book.takesOf(b, end) > units[b]) {
                        give(b, end);
                    }
                }
            }
        }

        private void give(int bidder, int price) {
            if (soldUnits >= MOST_UNITS || units[bidder] >= MOST_VALUES) {
                return;
            }
            prices[bidder * MOST_VALUES + units[bidder]] = price;
            units[bidder]++;
            owners[soldUnits] = bidder;
            soldAt[soldUnits] = price;
            soldUnits++;
        }

        // -- what it came to

        int unitPrice(int bidder, int i) {
            return prices[bidder * MOST_VALUES + i];
        }

        int unsold() {
            return book.supply - soldUnits;
        }

        int valueOfUnits(int bidder) {
            return book.sumOfFirst(bidder, units[bidder]);
        }

        int clinchedBy(int bidder, int price) {
            int n = 0;
            while (n < clocked[bidder] && unitPrice(bidder, n) <= price) {
                n++;
            }
            return n;
        }

        int clinchPrice(int bidder, int k) {
            int first = firstOfClinch(bidder, k);
            return first == NONE ? NONE : unitPrice(bidder, first);
        }

        int clinchSize(int bidder, int k) {
            int first = firstOfClinch(bidder, k);
            return first == NONE ? NONE : clinchedBy(bidder, unitPrice(bidder, first)) - first;
        }

        /** The first unit that a bidder clinched at its k-th price. */
        private int firstOfClinch(int bidder, int k) {
            int first = 0;
            for (int passed = 0; passed < k && first < clocked[bidder]; passed++) {
                first = clinchedBy(bidder, unitPrice(bidder, first));
            }
            return first < clocked[bidder] ? first : NONE;
        }

        int payment(int bidder, int kind) {
            switch (kind) {
                case CLINCHED: return sumOfPrices(bidder);
                case ONE: return end * units[bidder];
                case OWN: return valueOfUnits(bidder);
                default: return harmBy(bidder);
            }
        }

        private int sumOfPrices(int bidder) {
            int sum = 0;
            for (int i = 0; i < units[bidder]; i++) {
                sum += unitPrice(bidder, i);
            }
            return sum;
        }

        private int harmBy(int bidder) {
            int others = book.everyone() & ~(1 << bidder);
            int had = valueOfAllUnits() - valueOfUnits(bidder);
            return book.worthTo(others, book.supply) - had - book.reserve * unsold();
        }

        int paidByAll(int kind) {
            int sum = 0;
            for (int b = 0; b < book.bidders; b++) {
                sum += payment(b, kind);
            }
            return sum;
        }

        int gainOf(int bidder, int kind) {
            return valueOfUnits(bidder) - payment(bidder, kind);
        }

        /** Once ahead of all sets, as a payment by harm is dear to reckon. */
        void reckonGains(int kind) {
            for (int b = 0; b < book.bidders; b++) {
                gains[b] = gainOf(b, kind);
            }
        }

        int gainOfSet(int set) {
            int sum = 0;
            for (int b = 0; b < book.bidders; b++) {
                if ((set >> b & 1) == 1) {
                    sum += gains[b];
                }
            }
            return sum;
        }

        /** From the book itself, as blocks() comes here by five calls and no more than eight may stand open. */
        private int valueOfAllUnits() {
            int sum = 0;
            for (int b = 0; b < book.bidders; b++) {
                sum += book.sumOfFirst(b, units[b]);
            }
            return sum;
        }

        int tell(int what) {
            switch (what) {
                case 0: return end;
                case 1: return soldUnits;
                case 2: return unsold();
                case 3: return clockUnits;
                case 4: return biddersWithUnits();
                case 5: return valueOfAllUnits();
                case 6: return book.worthTo(book.everyone(), book.supply);
                case 7: return clinchPrices();
                case 8: return soldUnits == 0 ? NOTHING : soldAt[soldUnits - 1];
                case 9: return soldUnits == 0 ? NOTHING : soldAt[0];
                default: return NONE;
            }
        }

        private int biddersWithUnits() {
            int n = 0;
            for (int b = 0; b < book.bidders; b++) {
                if (units[b] > 0) {
                    n++;
                }
            }
            return n;
        }

        private int clinchPrices() {
            int n = 0;
            for (int k = 0; k < clockUnits; k++) {
                if (k == 0 || soldAt[k] != soldAt[k - 1]) {
                    n++;
                }
            }
            return n;
        }
    }

    /** The RECORD: four numbers a line, the latest line first. */
    private static final class Ledger {
        static final int MOST_LINES = 8;
        static final int WIDTH = 4;
        static final int SIZE = 1 + MOST_LINES * WIDTH;

        int lines = 0;
        final int[] cells = new int[MOST_LINES * WIDTH];

        void write(int end, int soldUnits, int payments, int kind) {
            System.arraycopy(cells, 0, cells, WIDTH, (MOST_LINES - 1) * WIDTH);
            cells[0] = end;
            cells[1] = soldUnits;
            cells[2] = payments;
            cells[3] = kind;
            lines = Math.min(lines + 1, MOST_LINES);
        }

        int read(int k, int what) {
            if (k < 0 || k >= lines || what < 0 || what >= WIDTH) {
                return NONE;
            }
            return cells[k * WIDTH + what];
        }

        void storeIn(int[] to, int from) {
            to[from] = lines;
            System.arraycopy(cells, 0, to, from + 1, cells.length);
        }

        void loadFrom(int[] source, int from) {
            lines = source[from];
            System.arraycopy(source, from + 1, cells, 0, cells.length);
        }
    }

    /** How things were ahead of each of the latest acts: a ring, so that the oldest one is forgotten. */
    private static final class History {
        static final int MOST_ACTS = 12;
        static final int SIZE = Book.SIZE + Ledger.SIZE;

        int kept = 0;
        private int next = 0;
        private final int[] cells = new int[MOST_ACTS * SIZE];

        void push(Book book, Ledger ledger) {
            book.storeIn(cells, next * SIZE);
            ledger.storeIn(cells, next * SIZE + Book.SIZE);
            next = (next + 1) % MOST_ACTS;
            kept = Math.min(kept + 1, MOST_ACTS);
        }

        void pop(Book book, Ledger ledger) {
            if (kept == 0) {
                return;
            }
            next = (next + MOST_ACTS - 1) % MOST_ACTS;
            kept--;
            book.loadFrom(cells, next * SIZE);
            ledger.loadFrom(cells, next * SIZE + Book.SIZE);
        }
    }

    /** The bytes that were fed and not yet taken as a TEXT. */
    private static final class Tape {
        static final int MOST_BYTES = 500;

        int length = 0;
        final byte[] bytes = new byte[MOST_BYTES];

        boolean hasRoomFor(int n) {
            return length + n <= MOST_BYTES;
        }

        void put(int four) {
            if (!hasRoomFor(4)) {
                return;
            }
            for (int shift = 24; shift >= 0; shift -= 8) {
                bytes[length] = (byte) (four >> shift);
                length++;
            }
        }
    }

    /** Reads the tape as a TEXT into a Book, one token ahead. */
    private static final class TextReader {
        static final int FINISH = 0;
        static final int WORD = 1;
        static final int NUMBER = 2;
        static final int SEMICOLON = 3;
        // A byte that stands in no token, or a token with no blank where one must be.
        static final int STRANGE = 4;
        static final int BLANK = 5;

        final Tape tape = new Tape();
        private int token = FINISH;
        private int start = 0;
        private int stop = 0;
        private int fault = NONE;

        /** The FAULT, NONE if there is none. */
        int read(Book book) {
            book.restart();
            fault = NONE;
            token = FINISH;
            stop = 0;
            advance();
            for (int part = 0; part < Tape.MOST_BYTES && fault == NONE && token != FINISH; part++) {
                if (isWord("supply")) {
                    advance();
                    book.supply = readNumber(1, MOST_UNITS);
                } else if (isWord("reserve")) {
                    advance();
                    book.reserve = readNumber(0, TOP_PRICE);
                } else if (isWord("bidder") && book.bidders < MOST_BIDDERS) {
                    advance();
                    readBidder(book, book.addBidder());
                } else {
                    fail();
                }
                readSemicolon();
            }
            return fault;
        }

        private void readBidder(Book book, int bidder) {
            int most = TOP_PRICE;
            for (int i = 0; i < MOST_VALUES && token == NUMBER && fault == NONE; i++) {
                most = readNumber(0, most);
                book.insertValue(bidder, most);
            }
            if (fault == NONE && isWord("cap")) {
                advance();
                book.caps[bidder] = readNumber(0, MOST_CAP);
            }
        }

        private void readSemicolon() {
            if (fault == NONE && token == SEMICOLON) {
                advance();
            } else {
                fail();
            }
        }

        private int readNumber(int least, int most) {
            int n = token == NUMBER ? numberHere() : NONE;
            if (n < least || n > most) {
                fail();
                return least;
            }
            advance();
            return n;
        }

        private int numberHere() {
            if (stop - start > 2) {
                return NONE;
            }
            int n = 0;
            for (int i = start; i < stop; i++) {
                n = n * 10 + (tape.bytes[i] - '0');
            }
            return n;
        }

        private void fail() {
            if (fault == NONE) {
                fault = start;
            }
        }

        private boolean isWord(String word) {
            if (token != WORD || stop - start != word.length()) {
                return false;
            }
            for (int i = 0; i < word.length(); i++) {
                if (tape.bytes[start + i] != word.charAt(i)) {
                    return false;
                }
            }
            return true;
        }

        private void advance() {
            boolean needsBlank = token == WORD || token == NUMBER;
            int from = stop;
            start = endOfRun(from, BLANK);
            token = start < tape.length ? kindOf(tape.bytes[start]) : FINISH;
            boolean runs = token == WORD || token == NUMBER;
            stop = runs ? endOfRun(start, token) : Math.min(start + 1, tape.length);
            if (needsBlank && runs && start == from) {
                token = STRANGE;
            }
        }

        private int endOfRun(int from, int kind) {
            int i = from;
            while (i < tape.length && kindOf(tape.bytes[i]) == kind) {
                i++;
            }
            return i;
        }

        private static int kindOf(byte b) {
            if (b >= 'a' && b <= 'z') {
                return WORD;
            }
            if (b >= '0' && b <= '9') {
                return NUMBER;
            }
            if (b == 32 || b == 10) {
                return BLANK;
            }
            return b == ';' ? SEMICOLON : STRANGE;
        }
    }

    /** Writes a TEXT nowhere: it counts the bytes and keeps the one that is sought. */
    private static final class Pen {
        private int sought = NONE;
        private int written = 0;
        private int found = NOTHING;

        void seek(int i) {
            sought = i;
            written = 0;
            found = NOTHING;
        }

        int answer() {
            return sought == NONE ? written : found;
        }

        void line(String words, int n) {
            letters(words);
            number(n);
            sign(';');
        }

        void letters(String words) {
            for (int i = 0; i < words.length(); i++) {
                sign(words.charAt(i));
            }
        }

        void number(int n) {
            int unit = 1;
            for (int digits = 1; digits < 9 && n / unit >= 10; digits++) {
                unit *= 10;
            }
            for (; unit >= 1; unit /= 10) {
                sign('0' + n / unit % 10);
            }
        }

        private void sign(int b) {
            if (written == sought) {
                found = b;
            }
            written++;
        }
    }
}
