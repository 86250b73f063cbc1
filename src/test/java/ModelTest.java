import java.lang.reflect.Method;
import java.util.ArrayList;
import java.util.Arrays;
import java.util.Collections;
import java.util.Comparator;
import java.util.List;
import java.util.Random;

/**
 * Runs of 512 calls, drawn by fixed seeds, on the class and on a plain model of the document
 * that shares no code with it; wild arguments too. Nothing may throw and all answers must agree.
 */
public final class ModelTest {
    private static final int RUNS = 400;
    private static final int CALLS = 512;
    // To empty the tape, to feed 500 bytes, to take back what is too much, to read them.
    private static final int TEXT_CALLS = 28;
    private static final int[] WILD = {Integer.MIN_VALUE, Integer.MAX_VALUE, -100000, -101, -100, -9, -3, -2, -1,
        8, 9, 10, 30, 31, 32, 99, 100, 101, 255, 256, 511, 512, 1 << 30, 1 << 31};

    // What the arguments of each call are: b bidder, v value or price, i number of a value or unit, c cap,
    // k kind, w what, u units, s set, y shift, t place in a text, n small number, x a tape's bytes.
    private static final String[] CALLS_AND_ARGUMENTS = {
        "feed xxxxx", "back n", "text ", "join ", "leave b", "value bv", "without bi", "cap bc", "change biv",
        "split bn", "move bb", "copy b", "clear b", "hold k", "shade by", "swap bb", "supply u", "reserve v", "undo ",
        "of bw", "valueOf bi", "unit bi", "pays bk", "gain bk", "at bvw", "result w", "paid k", "wanted v", "sold uw",
        "worth su", "clinch biw", "dearest k", "perUnit bk", "alike bb", "ranked uw", "priceFor u", "step uw",
        "envies bk", "blocks k", "record iw", "bySupply uw", "byReserve vw", "bestReserve k", "unitsWithout bb",
        "paidWithout bk", "pivot ", "tells bki", "bestTells bk", "hides bkv", "bestHides bk", "inTwo uk",
        "splitGain bnk", "reserveFor u", "collude bbk", "supplyFor v", "valueFor b", "spell t", "report kt", "count w"};

    private static final class Bidder {
        List<Integer> values = new ArrayList<>();
        int cap = 8;

        Bidder like() {
            Bidder b = new Bidder();
            b.values.addAll(values);
            b.cap = cap;
            return b;
        }

        void sort() {
            values.sort(Collections.reverseOrder());
        }

        int wants(int price) {
            return Math.min(cap, (int) values.stream().filter(v -> v > price).count());
        }

        int takes(int price) {
            return Math.min(cap, (int) values.stream().filter(v -> v >= price).count());
        }

        int first(int n) {
            return values.stream().limit(n).mapToInt(v -> v).sum();
        }
    }

    /** Supply, reserve, bidders, and the auction of them. */
    private static final class World {
        int supply = 10;
        int reserve = 0;
        List<Bidder> bidders = new ArrayList<>();
        List<int[]> record = new ArrayList<>();

        int end;
        List<int[]> sold;
        int clock;

        World like() {
            World w = new World();
            w.supply = supply;
            w.reserve = reserve;
            for (Bidder b : bidders) {
                w.bidders.add(b.like());
            }
            w.record.addAll(record);
            return w;
        }

        int wanted(int price) {
            return bidders.stream().mapToInt(b -> b.wants(price)).sum();
        }

        World auction() {
            sold = new ArrayList<>();
            int price = reserve;
            while (true) {
                for (int b = 0; b < bidders.size(); b++) {
                    int wants = bidders.get(b).wants(price);
                    int free = Math.max(0, supply - (wanted(price) - wants));
                    int more = Math.min(wants, free) - units(b);
                    for (int i = 0; i < more; i++) {
                        sold.add(new int[] {b, price});
                    }
                }
                if (wanted(price) <= supply) {
                    break;
                }
                price++;
            }
            end = price;
            clock = sold.size();
            boolean given = true;
            while (given) {
                given = false;
                for (int b = 0; b < bidders.size(); b++) {
                    if (sold.size() < supply && bidders.get(b).takes(end) > units(b)) {
                        sold.add(new int[] {b, end});
                        given = true;
                    }
                }
            }
            return this;
        }

        int units(int bidder) {
            return prices(bidder).size();
        }

        List<Integer> prices(int bidder) {
            return prices(bidder, sold.size());
        }

        List<Integer> prices(int bidder, int among) {
            List<Integer> prices = new ArrayList<>();
            for (int[] s : sold.subList(0, among)) {
                if (s[0] == bidder) {
                    prices.add(s[1]);
                }
            }
            return prices;
        }

        int unsold() {
            return supply - sold.size();
        }

        int had(int bidder) {
            return bidders.get(bidder).first(units(bidder));
        }

        int allHad() {
            int sum = 0;
            for (int b = 0; b < bidders.size(); b++) {
                sum += had(b);
            }
            return sum;
        }

        int worth(int set, int units) {
            List<Integer> all = new ArrayList<>(Collections.nCopies(units, reserve));
            for (int b = 0; b < bidders.size(); b++) {
                if ((set & 1 << b) != 0) {
                    Bidder x = bidders.get(b);
                    all.addAll(x.values.subList(0, Math.min(x.cap, x.values.size())));
                }
            }
            all.sort(Collections.reverseOrder());
            return all.stream().limit(units).mapToInt(v -> v).sum();
        }

        int pays(int bidder, int kind) {
            if (kind == 0) {
                return prices(bidder).stream().mapToInt(p -> p).sum();
            }
            if (kind == 1) {
                return units(bidder) * end;
            }
            if (kind == 2) {
                return had(bidder);
            }
            int others = (1 << bidders.size()) - 1 - (1 << bidder);
            return worth(others, supply) - (allHad() - had(bidder)) - reserve * unsold();
        }

        int paid(int kind) {
            int sum = 0;
            for (int b = 0; b < bidders.size(); b++) {
                sum += pays(b, kind);
            }
            return sum;
        }

        int gain(int bidder, int kind) {
            return had(bidder) - pays(bidder, kind);
        }

        int result(int what) {
            switch (what) {
                case 0: return end;
                case 1: return sold.size();
                case 2: return unsold();
                case 3: return clock;
                case 4: return (int) sold.stream().map(s -> s[0]).distinct().count();
                case 5: return allHad();
                case 6: return worth((1 << bidders.size()) - 1, supply);
                case 7: return (int) sold.subList(0, clock).stream().map(s -> s[1]).distinct().count();
                case 8: return sold.stream().mapToInt(s -> s[1]).max().orElse(-2);
                case 9: return sold.stream().mapToInt(s -> s[1]).min().orElse(-2);
                default: return -1;
            }
        }

        void handOver() {
            for (int b = 0; b < bidders.size(); b++) {
                Bidder x = bidders.get(b);
                int units = units(b);
                x.values.subList(0, units).clear();
                x.cap -= units;
            }
        }

        int split(int bidder, int n) {
            Bidder old = bidders.get(bidder);
            Bidder made = new Bidder();
            made.cap = old.cap;
            int keeps = old.values.size() - n;
            made.values.addAll(old.values.subList(keeps, keeps + n));
            old.values.subList(keeps, keeps + n).clear();
            bidders.add(made);
            return bidders.size() - 1;
        }
    }

    private static final class Model {
        World now = new World();
        List<World> before = new ArrayList<>();
        StringBuilder tape = new StringBuilder();

        boolean has(int b) {
            return b >= 0 && b < now.bidders.size();
        }

        boolean two(int b, int c) {
            return has(b) && has(c) && b != c;
        }

        boolean hasValue(int b, int i) {
            return has(b) && i >= 0 && i < now.bidders.get(b).values.size();
        }

        boolean full() {
            return now.bidders.size() == 8;
        }

        void act() {
            before.add(now.like());
            if (before.size() > 12) {
                before.remove(0);
            }
        }

        int call(String name, int[] a) {
            switch (name) {
                case "feed":
                    if (tape.length() + 20 > 500) {
                        return -1;
                    }
                    for (int i = 0; i < 20; i++) {
                        tape.append((char) (a[i / 4] >>> 24 - i % 4 * 8 & 255));
                    }
                    return tape.length();
                case "back":
                    if (a[0] < 0 || a[0] > tape.length()) {
                        return -1;
                    }
                    tape.setLength(tape.length() - a[0]);
                    return tape.length();
                case "text":
                    return text();
                case "count":
                    return count(a[0]);
                case "undo":
                    if (before.isEmpty()) {
                        return -1;
                    }
                    now = before.remove(before.size() - 1);
                    return before.size();
                default:
                    int acted = acts(name, a);
                    if (acted != UNKNOWN) {
                        return acted;
                    }
                    now.auction();
                    int asked = asked(name, a);
                    return asked != UNKNOWN ? asked : were(name, a);
            }
        }

        private static final int UNKNOWN = -777777;

        int text() {
            String text = tape.toString();
            tape.setLength(0);
            World w = new World();
            int fault = new Parser(text, w).parse();
            if (fault >= 0) {
                return -4 - fault;
            }
            now = w;
            before.clear();
            return w.bidders.size();
        }

        int acts(String name, int[] a) {
            int b = a.length > 0 ? a[0] : 0;
            Bidder x = has(b) ? now.bidders.get(b) : null;
            switch (name) {
                case "join":
                    return full() ? -1 : added(new Bidder());
                case "copy":
                    return x == null || full() ? -1 : added(x.like());
                case "leave":
                    if (x == null) {
                        return 0;
                    }
                    act();
                    now.bidders.remove(b);
                    return 1;
                case "value":
                    if (x == null || a[1] < 0 || a[1] > 99 || x.values.size() == 8) {
                        return -1;
                    }
                    act();
                    x.values.add(a[1]);
                    x.sort();
                    return x.values.size();
                case "without":
                    if (!hasValue(b, a[1])) {
                        return -1;
                    }
                    act();
                    x.values.remove(a[1]);
                    return x.values.size();
                case "cap":
                    if (x == null || a[1] < 0 || a[1] > 8 || a[1] == x.cap) {
                        return -1;
                    }
                    act();
                    int was = x.cap;
                    x.cap = a[1];
                    return was;
                case "change":
                    if (!hasValue(b, a[1]) || a[2] < 0 || a[2] > 99 || x.values.get(a[1]) == a[2]) {
                        return -1;
                    }
                    act();
                    int old = x.values.set(a[1], a[2]);
                    x.sort();
                    return old;
                case "split":
                    if (x == null || a[1] < 1 || a[1] >= x.values.size() || full()) {
                        return -1;
                    }
                    act();
                    return now.split(b, a[1]);
                case "clear":
                    if (x == null || x.values.isEmpty()) {
                        return -1;
                    }
                    act();
                    int n = x.values.size();
                    x.values.clear();
                    return n;
                case "move":
                    if (!two(b, a[1])) {
                        return 0;
                    }
                    act();
                    now.bidders.add(a[1], now.bidders.remove(b));
                    return 1;
                case "swap":
                    if (!two(b, a[1])) {
                        return 0;
                    }
                    act();
                    Collections.swap(now.bidders, b, a[1]);
                    return 1;
                case "shade":
                    return shade(x, a[1]);
                case "hold":
                    return hold(a[0]);
                case "supply":
                    if (a[0] < 1 || a[0] > 30 || a[0] == now.supply) {
                        return -1;
                    }
                    act();
                    int units = now.supply;
                    now.supply = a[0];
                    return units;
                case "reserve":
                    if (a[0] < 0 || a[0] > 99 || a[0] == now.reserve) {
                        return -1;
                    }
                    act();
                    int price = now.reserve;
                    now.reserve = a[0];
                    return price;
                default:
                    return UNKNOWN;
            }
        }

        int added(Bidder b) {
            act();
            now.bidders.add(b);
            return now.bidders.size() - 1;
        }

        int shade(Bidder x, int by) {
            if (x == null || by > 99 || by < -99) {
                return -1;
            }
            List<Integer> to = new ArrayList<>();
            int changed = 0;
            for (int v : x.values) {
                int s = Math.min(99, Math.max(0, v + by));
                to.add(s);
                changed += s == v ? 0 : 1;
            }
            if (changed == 0) {
                return -1;
            }
            act();
            x.values = to;
            return changed;
        }

        int hold(int kind) {
            if (kind < 0 || kind > 3) {
                return -1;
            }
            act();
            now.auction();
            now.record.add(0, new int[] {now.end, now.sold.size(), now.paid(kind), kind});
            if (now.record.size() > 8) {
                now.record.remove(8);
            }
            now.handOver();
            return now.sold.size();
        }

        int asked(String name, int[] a) {
            int b = a.length > 0 ? a[0] : 0;
            int last = a.length > 0 ? a[a.length - 1] : 0;
            boolean kind = last >= 0 && last <= 3;
            Bidder x = has(b) ? now.bidders.get(b) : null;
            switch (name) {
                case "of":
                    return x == null ? -1 : of(b, x, a[1]);
                case "valueOf":
                    return hasValue(b, a[1]) ? x.values.get(a[1]) : -1;
                case "unit":
                    if (x == null || a[1] < 0) {
                        return -1;
                    }
                    return a[1] < now.units(b) ? now.prices(b).get(a[1]) : -2;
                case "pays":
                    return x == null || !kind ? -1 : now.pays(b, last);
                case "gain":
                    return x == null || !kind ? -100000 : now.gain(b, last);
                case "at":
                    return x == null || a[1] < 0 || a[1] > 99 ? -1 : at(b, x, a[1], a[2]);
                case "result":
                    return now.result(a[0]);
                case "paid":
                    return kind ? now.paid(last) : -1;
                case "wanted":
                    return b < 0 || b > 99 ? -1 : now.wanted(b);
                case "sold":
                    return b < 0 || b >= now.sold.size() || last < 0 || last > 1 ? -1 : now.sold.get(b)[last];
                case "worth":
                    if (a[0] < 0 || a[0] >= 1 << now.bidders.size() || a[1] < 0 || a[1] > 30) {
                        return -1;
                    }
                    return now.worth(a[0], a[1]);
                case "clinch":
                    return x == null ? -1 : clinch(b, a[1], a[2]);
                case "dearest":
                    return kind ? dearest(last) : -1;
                case "perUnit":
                    if (x == null || !kind) {
                        return -1;
                    }
                    return now.units(b) == 0 ? -2 : now.pays(b, last) / now.units(b);
                case "alike":
                    if (x == null || !has(a[1])) {
                        return -1;
                    }
                    Bidder y = now.bidders.get(a[1]);
                    return x.cap == y.cap && x.values.equals(y.values) ? 1 : 0;
                case "ranked":
                    return ranked(a[0], a[1]);
                case "priceFor":
                    return a[0] < 0 ? -1 : priceFor(a[0]);
                case "step":
                    return step(a[0], a[1]);
                case "envies":
                    return x == null || !kind ? -1 : envies(b, x, last);
                case "blocks":
                    return kind ? blocks(last) : -1;
                case "record":
                    boolean line = b >= 0 && b < now.record.size();
                    return line && kind ? now.record.get(b)[last] : -1;
                case "spell":
                    return byteOf(spelt(), a[0]);
                case "report":
                    return a[0] < 0 || a[0] > 3 ? -1 : byteOf(reported(a[0]), a[1]);
                default:
                    return UNKNOWN;
            }
        }

        int of(int b, Bidder x, int what) {
            switch (what) {
                case 0: return x.values.size();
                case 1: return x.cap;
                case 2: return now.units(b);
                case 3: return now.had(b);
                case 4: return now.units(b) - now.prices(b, now.clock).size();
                case 5: return now.prices(b, now.clock).stream().findFirst().orElse(-2);
                default: return -1;
            }
        }

        int at(int b, Bidder x, int price, int what) {
            switch (what) {
                case 0: return x.wants(price);
                case 1: return x.takes(price);
                case 2: return Math.max(0, now.supply - now.wanted(price) + x.wants(price));
                case 3: return (int) now.prices(b, now.clock).stream().filter(p -> p <= price).count();
                default: return -1;
            }
        }

        int clinch(int b, int k, int what) {
            List<Integer> clinched = now.prices(b, now.clock);
            List<Integer> prices = clinched.stream().distinct().toList();
            if (k < 0 || k >= prices.size() || what < 0 || what > 1) {
                return -1;
            }
            int price = prices.get(k);
            return what == 0 ? price : Collections.frequency(clinched, price);
        }

        int dearest(int kind) {
            int best = -2;
            for (int b = now.bidders.size() - 1; b >= 0; b--) {
                if (best == -2 || now.pays(b, kind) >= now.pays(best, kind)) {
                    best = b;
                }
            }
            return best;
        }

        int ranked(int k, int what) {
            List<int[]> all = new ArrayList<>();
            for (int b = 0; b < now.bidders.size(); b++) {
                for (int v : now.bidders.get(b).values) {
                    all.add(new int[] {b, v});
                }
            }
            all.sort(Comparator.comparingInt(p -> -p[1]));
            return k < 0 || k >= all.size() || what < 0 || what > 1 ? -1 : all.get(k)[what];
        }

        int priceFor(int units) {
            int price = 0;
            while (now.wanted(price) > units) {
                price++;
            }
            return price;
        }

        int step(int k, int what) {
            List<int[]> steps = new ArrayList<>();
            int ahead = now.bidders.stream().mapToInt(b -> Math.min(b.cap, b.values.size())).sum();
            for (int price = 0; price < 100; price++) {
                int p = price;
                if (now.wanted(p) < ahead) {
                    int wanting = (int) now.bidders.stream().filter(b -> b.wants(p) > 0).count();
                    steps.add(new int[] {p, now.wanted(p), wanting});
                }
                ahead = now.wanted(p);
            }
            return k < 0 || k >= steps.size() || what < 0 || what > 2 ? -1 : steps.get(k)[what];
        }

        int envies(int b, Bidder x, int kind) {
            for (int c = 0; c < now.bidders.size(); c++) {
                int used = Math.min(now.units(c), x.cap);
                if (x.first(used) - now.pays(c, kind) > now.gain(b, kind)) {
                    return c;
                }
            }
            return -2;
        }

        int blocks(int kind) {
            int seller = now.paid(kind) + now.reserve * now.unsold();
            for (int set = 1; set < 1 << now.bidders.size(); set++) {
                int gains = seller;
                for (int b = 0; b < now.bidders.size(); b++) {
                    gains += (set & 1 << b) == 0 ? 0 : now.gain(b, kind);
                }
                if (now.worth(set, now.supply) > gains) {
                    return set;
                }
            }
            return -2;
        }

        int were(String name, int[] a) {
            int b = a.length > 0 ? a[0] : 0;
            int last = a.length > 0 ? a[a.length - 1] : 0;
            boolean kind = last >= 0 && last <= 3;
            Bidder x = has(b) ? now.bidders.get(b) : null;
            World w = now.like();
            switch (name) {
                case "bySupply":
                    w.supply = a[0];
                    return a[0] < 1 || a[0] > 30 ? -1 : w.auction().result(a[1]);
                case "byReserve":
                    w.reserve = a[0];
                    return a[0] < 0 || a[0] > 99 ? -1 : w.auction().result(a[1]);
                case "bestReserve":
                    return kind ? bestReserve(w, last) : -1;
                case "unitsWithout":
                    if (!two(b, a[1])) {
                        return -1;
                    }
                    Bidder kept = w.bidders.get(b);
                    w.bidders.remove(a[1]);
                    return w.auction().units(w.bidders.indexOf(kept));
                case "paidWithout":
                    return x == null || !kind ? -1 : paidWithout(b, last);
                case "pivot":
                    return pivot();
                case "tells":
                    boolean known = x != null && a[1] >= 0 && a[1] <= 3 && a[2] >= 0 && a[2] <= x.values.size();
                    return known ? tells(b, a[1], a[2]) : -100000;
                case "bestTells":
                    return x == null || !kind ? -1 : bestTells(b, last);
                case "hides":
                    boolean may = x != null && a[1] >= 0 && a[1] <= 3 && a[2] >= 0 && a[2] <= 99;
                    return may ? hides(b, a[1], a[2]) : -100000;
                case "bestHides":
                    return x == null || !kind ? -1 : bestHides(b, last);
                case "inTwo":
                    if (a[0] < 1 || a[0] > now.supply - 1 || !kind) {
                        return -1;
                    }
                    w.supply = a[0];
                    int paid = w.auction().paid(last);
                    w.handOver();
                    w.supply = now.supply - a[0];
                    return paid + w.auction().paid(last);
                case "splitGain":
                    if (x == null || a[1] < 1 || a[1] >= x.values.size() || !kind) {
                        return -100000;
                    }
                    int made = w.split(b, a[1]);
                    w.auction();
                    return now.pays(b, last) - (w.pays(b, last) + w.pays(made, last));
                case "reserveFor":
                    return a[0] < 1 ? -1 : reserveFor(w, a[0]);
                case "collude":
                    return two(b, a[1]) && kind ? collude(w, b, a[1], last) : -100000;
                case "supplyFor":
                    return a[0] < 0 || a[0] > 99 ? -1 : supplyFor(w, a[0]);
                case "valueFor":
                    return x == null || x.values.size() == 8 ? -1 : valueFor(b);
                default:
                    throw new IllegalStateException(name);
            }
        }

        int bestReserve(World w, int kind) {
            int best = 0;
            int[] paid = new int[100];
            for (int price = 0; price < 100; price++) {
                w.reserve = price;
                paid[price] = w.auction().paid(kind);
                best = paid[price] > paid[best] ? price : best;
            }
            return best;
        }

        int paidWithout(int b, int kind) {
            World w = now.like();
            w.bidders.remove(b);
            return w.auction().paid(kind);
        }

        int pivot() {
            int best = -2;
            for (int b = 0; b < now.bidders.size(); b++) {
                if (best == -2 || paidWithout(b, 0) < paidWithout(best, 0)) {
                    best = b;
                }
            }
            return best;
        }

        int tells(int b, int kind, int n) {
            World w = now.like();
            w.bidders.get(b).values = new ArrayList<>(now.bidders.get(b).values.subList(0, n));
            w.auction();
            return now.bidders.get(b).first(w.units(b)) - w.pays(b, kind);
        }

        int bestTells(int b, int kind) {
            int best = now.bidders.get(b).values.size();
            for (int n = best; n >= 0; n--) {
                best = tells(b, kind, n) > tells(b, kind, best) ? n : best;
            }
            return best;
        }

        int hides(int b, int kind, int by) {
            World w = now.like();
            w.bidders.get(b).values.replaceAll(v -> Math.max(0, v - by));
            w.auction();
            return now.bidders.get(b).first(w.units(b)) - w.pays(b, kind);
        }

        int bestHides(int b, int kind) {
            int best = 0;
            for (int by = 1; by <= 20; by++) {
                best = hides(b, kind, by) > hides(b, kind, best) ? by : best;
            }
            return best;
        }

        int reserveFor(World w, int units) {
            for (int price = 0; price < 100; price++) {
                w.reserve = price;
                if (w.auction().unsold() >= units) {
                    return price;
                }
            }
            return -2;
        }

        int collude(World w, int b, int c, int kind) {
            Bidder one = w.bidders.get(b);
            Bidder other = w.bidders.get(c);
            one.values.addAll(other.values);
            one.sort();
            one.values = new ArrayList<>(one.values.subList(0, Math.min(8, one.values.size())));
            one.cap = Math.min(8, one.cap + other.cap);
            w.bidders.remove(other);
            w.auction();
            return now.pays(b, kind) + now.pays(c, kind) - w.pays(w.bidders.indexOf(one), kind);
        }

        int supplyFor(World w, int price) {
            for (int units = 1; units <= 30; units++) {
                w.supply = units;
                if (w.auction().end <= price) {
                    return units;
                }
            }
            return -2;
        }

        int valueFor(int b) {
            for (int v = 0; v < 100; v++) {
                World w = now.like();
                w.bidders.get(b).values.add(v);
                w.bidders.get(b).sort();
                if (w.auction().units(b) > now.units(b)) {
                    return v;
                }
            }
            return -2;
        }

        String spelt() {
            StringBuilder s = new StringBuilder("supply " + now.supply + ";reserve " + now.reserve + ";");
            for (Bidder b : now.bidders) {
                s.append("bidder");
                b.values.forEach(v -> s.append(" ").append(v));
                s.append(b.cap == 8 ? ";" : " cap " + b.cap + ";");
            }
            return s.toString();
        }

        String reported(int kind) {
            StringBuilder s = new StringBuilder("end " + now.end + ";");
            for (int b = 0; b < now.bidders.size(); b++) {
                if (now.units(b) > 0) {
                    s.append(b + " has " + now.units(b) + " pays " + now.pays(b, kind) + ";");
                }
            }
            return s + "left " + now.unsold() + ";";
        }

        int byteOf(String text, int i) {
            if (i < -1) {
                return -1;
            }
            return i == -1 ? text.length() : i < text.length() ? text.charAt(i) : -2;
        }

        int count(int what) {
            switch (what) {
                case 0: return now.bidders.size();
                case 1: return now.supply;
                case 2: return now.reserve;
                case 3: return now.bidders.stream().mapToInt(b -> b.values.size()).sum();
                case 4: return before.size();
                case 5: return tape.length();
                case 6: return now.bidders.stream().flatMap(b -> b.values.stream()).mapToInt(v -> v).max().orElse(-2);
                case 7: return now.record.size();
                case 8: return (int) now.bidders.stream().filter(b -> b.values.isEmpty()).count();
                case 9: return now.bidders.stream().mapToInt(b -> b.takes(0)).sum();
                default: return -1;
            }
        }
    }

    /** The grammar by single characters and states, not by tokens ahead. */
    private static final class Parser {
        private final String text;
        private final World world;
        private int at = 0;

        Parser(String text, World world) {
            this.text = text;
            this.world = world;
        }

        int parse() {
            while (true) {
                skip();
                if (at == text.length()) {
                    return -1;
                }
                int start = at;
                String word = run("[a-z]");
                int fault = start;
                if (word.equals("supply")) {
                    fault = number(1, 30);
                    world.supply = read;
                } else if (word.equals("reserve")) {
                    fault = number(0, 99);
                    world.reserve = read;
                } else if (word.equals("bidder") && world.bidders.size() < 8) {
                    fault = bidder();
                }
                if (fault >= 0) {
                    return fault;
                }
                skip();
                if (!next(";")) {
                    return at;
                }
                at++;
            }
        }

        private int read;

        private int bidder() {
            Bidder b = new Bidder();
            world.bidders.add(b);
            int most = 99;
            skip();
            while (next("[0-9]")) {
                int start = at;
                int fault = number(0, most);
                if (fault >= 0) {
                    return fault;
                }
                if (b.values.size() == 8) {
                    return start;
                }
                b.values.add(read);
                most = read;
                skip();
            }
            if (next("[a-z]")) {
                int start = at;
                boolean apart = apart();
                if (!run("[a-z]").equals("cap") || !apart) {
                    return start;
                }
                int fault = number(0, 8);
                b.cap = read;
                return fault;
            }
            return -1;
        }

        private int number(int least, int most) {
            skip();
            int start = at;
            boolean apart = apart();
            String digits = run("[0-9]");
            if (digits.isEmpty() || !apart || digits.length() > 2) {
                return start;
            }
            read = Integer.parseInt(digits);
            return read < least || read > most ? start : -1;
        }

        private boolean next(String pattern) {
            return at < text.length() && text.substring(at, at + 1).matches(pattern);
        }

        private String run(String pattern) {
            int start = at;
            while (next(pattern)) {
                at++;
            }
            return text.substring(start, at);
        }

        private void skip() {
            while (at < text.length() && (text.charAt(at) == ' ' || text.charAt(at) == '\n')) {
                at++;
            }
        }

        /** No word or number ends right here. */
        private boolean apart() {
            return at == 0 || !text.substring(at - 1, at).matches("[a-z0-9]");
        }
    }

    private static final class Driver {
        final Random random;
        final ClinchClock clock = new ClinchClock();
        final Model model = new Model();
        final StringBuilder told = new StringBuilder();
        int top;

        Driver(int seed) {
            random = new Random(seed);
            top = new int[] {3, 9, 30, 99}[random.nextInt(4)];
        }

        int argument(char kind) {
            if (random.nextInt(25) == 0) {
                return WILD[random.nextInt(WILD.length)];
            }
            int bidders = model.now.bidders.size();
            switch (kind) {
                case 'b': return random.nextInt(bidders + (random.nextInt(8) == 0 ? 2 : 1));
                case 'v': return random.nextInt(top + 1);
                case 'i': return random.nextInt(random.nextInt(9) + 1);
                case 'c': return random.nextInt(10);
                case 'k': return random.nextInt(4);
                case 'w': return random.nextInt(random.nextBoolean() ? 4 : 11);
                case 'u': return random.nextInt(random.nextBoolean() ? 6 : 32);
                case 's': return random.nextInt(1 << bidders);
                case 'y': return random.nextInt(21) - 10;
                case 't': return random.nextInt(120) - 2;
                case 'n': return random.nextInt(6);
                default: return random.nextInt();
            }
        }

        String randomText() {
            StringBuilder s = new StringBuilder();
            int supplies = random.nextInt(3);
            for (int i = 0; i < supplies; i++) {
                s.append("supply " + (1 + random.nextInt(random.nextBoolean() ? 8 : 30)) + gap() + ";" + gap());
            }
            if (random.nextInt(3) == 0) {
                s.append(gap() + "reserve  " + random.nextInt(top + 1) + ";");
            }
            int bidders = random.nextInt(20) == 0 ? 9 : random.nextInt(9);
            for (int b = 0; b < bidders; b++) {
                s.append("bidder");
                int v = top;
                int values = random.nextInt(40) == 0 ? 9 : random.nextInt(9);
                for (int i = 0; i < values; i++) {
                    v -= Math.min(v, random.nextInt(3) == 0 ? random.nextInt(v + 1) : random.nextInt(4));
                    s.append(" " + gap() + (v < 10 && random.nextInt(9) == 0 ? "0" : "") + v);
                }
                s.append(random.nextInt(4) == 0 ? " cap " + random.nextInt(9) : "").append(gap() + ";" + gap());
            }
            int faults = random.nextInt(3) == 0 ? 1 + random.nextInt(2) : 0;
            for (int i = 0; i < faults && s.length() > 0; i++) {
                spoil(s);
            }
            return s.length() > 500 ? s.substring(0, 500) : s.toString();
        }

        String gap() {
            return new String[] {"", "", "", " ", "\n", "  "}[random.nextInt(6)];
        }

        void spoil(StringBuilder s) {
            int at = random.nextInt(s.length());
            String signs = " \n;0123456789abcdeprsuvyl\t\rA-\u00e9\0";
            char sign = signs.charAt(random.nextInt(signs.length()));
            switch (random.nextInt(4)) {
                case 0: s.deleteCharAt(at); break;
                case 1: s.insert(at, sign); break;
                case 2: s.setCharAt(at, sign); break;
                default: s.setLength(at); break;
            }
        }

        /** Feeds the text and takes the rest of the last twenty bytes back. */
        boolean feed(String text) {
            int rows = (text.length() + 19) / 20;
            boolean fine = true;
            for (int r = 0; r < rows && fine; r++) {
                int[] n = new int[5];
                for (int i = 0; i < 20; i++) {
                    int at = r * 20 + i;
                    n[i / 4] = n[i / 4] << 8 | (at < text.length() ? text.charAt(at) & 255 : 32);
                }
                fine = step("feed", n);
            }
            return fine && step("back", new int[] {rows * 20 - text.length()});
        }

        boolean step(String name, int[] arguments) {
            told.append(name).append(Arrays.toString(arguments)).append(' ');
            int due = model.call(name, arguments);
            Object[] boxed = Arrays.stream(arguments).boxed().toArray();
            Object got;
            try {
                got = METHODS[indexOf(name)].invoke(clock, boxed);
            } catch (ReflectiveOperationException e) {
                got = e.getCause() == null ? e : e.getCause();
            }
            Object answer = got instanceof Boolean ? (Boolean) got ? 1 : 0 : got;
            if (answer.equals(due)) {
                return true;
            }
            System.out.println(told + "answered " + answer + ", due is " + due);
            return false;
        }

        boolean run() {
            int calls = 0;
            while (calls <= CALLS - TEXT_CALLS) {
                boolean fine;
                if (random.nextInt(40) == 0 || calls == 0) {
                    fine = step("back", new int[] {model.tape.length()}) && feed(randomText()) && step("text", new int[0]);
                    calls += TEXT_CALLS;
                } else {
                    String[] call = CALLS_AND_ARGUMENTS[random.nextInt(CALLS_AND_ARGUMENTS.length)].split(" ", 2);
                    int[] arguments = call[1].chars().map(c -> argument((char) c)).toArray();
                    fine = step(call[0], arguments);
                    calls++;
                }
                if (!fine) {
                    return false;
                }
            }
            return true;
        }
    }

    private static final Method[] METHODS = new Method[CALLS_AND_ARGUMENTS.length];

    private static int indexOf(String name) {
        for (int i = 0; i < CALLS_AND_ARGUMENTS.length; i++) {
            if (CALLS_AND_ARGUMENTS[i].startsWith(name + " ")) {
                return i;
            }
        }
        throw new IllegalStateException(name);
    }

    public static void main(String[] args) {
        for (Method m : ClinchClock.class.getMethods()) {
            if (m.getDeclaringClass() == ClinchClock.class) {
                METHODS[indexOf(m.getName())] = m;
            }
        }
        int runs = args.length > 0 ? Integer.parseInt(args[0]) : RUNS;
        for (int seed = 0; seed < runs; seed++) {
            if (!new Driver(seed).run()) {
                System.out.println("seed " + seed);
                System.exit(1);
            }
        }
        System.out.println(runs + " runs agree with the model");
    }
}
