import java.lang.reflect.InvocationTargetException;
import java.lang.reflect.Method;
import java.lang.reflect.Modifier;
import java.nio.charset.StandardCharsets;
import java.util.Arrays;
import java.util.Comparator;
import java.util.HashMap;
import java.util.Map;
import java.util.Set;
import java.util.TreeSet;
import java.util.function.Supplier;

/**
 * What the tests of edges share: auctions to begin with, checks of an answer and of what it left behind,
 * and the run of all tests of a class. No object is asked more than the 512 calls that the document promises.
 */
final class Edges {
    static final int NONE = -1;
    static final int NOTHING = -2;
    static final int NO_GAIN = -100000;
    static final int BIG = Integer.MAX_VALUE;
    static final int SMALL = Integer.MIN_VALUE;

    static final String EMPTY = "supply 10;reserve 0;";
    // At 2 the first clinches one, at 4 the second, at 5 (the end) the first and the third.
    static final String RISING = "supply 4;reserve 1;bidder 9 6 4;bidder 8 5;bidder 7 2;";
    // Both clinch one at 0; the end is 5, where the first gets the one that is left.
    static final String TIED = "supply 3;reserve 0;bidder 5 5;bidder 5 5;";
    // The end is the reserve; two are sold there, by the first one's cap, and four are unsold.
    static final String SPARE = "supply 6;reserve 3;bidder 9 4 3 cap 2;bidder 2;bidder;";
    static final String ONE_TIE = "supply 1;reserve 0;bidder 5;bidder 5;";
    static final String SEVEN = EMPTY + "bidder 7 5 cap 6;" + "bidder 4;".repeat(6);
    static final String EIGHT = EMPTY + "bidder 7 5 cap 6;" + "bidder 4;".repeat(7);
    // Eight bidders, eight values each: nothing more can come.
    static final String FULL = "supply 30;reserve 0;" + "bidder 98 90 80 70 60 50 40 30 cap 7;".repeat(8);
    static final String EIGHT_VALUES = "supply 10;reserve 0;bidder 80 70 60 50 40 30 20 10;";

    private static final String TAPE = "supply 7;bidder 3 2;";
    private static final int MOST_ACTS = 12;
    private static final StackWalker FRAMES = StackWalker.getInstance();
    private static final Map<String, String> PICTURES = new HashMap<>();

    private static String test = "";
    private static int wrong = 0;

    interface Call {
        long on(ClinchClock x);
    }

    interface NumberCall {
        long on(ClinchClock x, int n);
    }

    private Edges() {
    }

    // ---- the run

    /** Runs all tests of a class; each promise from first to last must have one at least. */
    static void run(Class<?> tests, int first, int last) {
        Set<Integer> tested = new TreeSet<>();
        Method[] methods = tests.getDeclaredMethods();
        Arrays.sort(methods, Comparator.comparing(Method::getName));
        int run = 0;
        for (Method method : methods) {
            if (method.getName().matches("(promise\\d\\d|term)_\\w+") && Modifier.isStatic(method.getModifiers())) {
                invoke(method);
                run++;
                if (method.getName().startsWith("promise")) {
                    tested.add(Integer.parseInt(method.getName().substring(7, 9)));
                }
            }
        }
        for (int promise = first; promise <= last; promise++) {
            if (!tested.contains(promise)) {
                wrong++;
                System.out.println("promise " + promise + " has no test");
            }
        }
        System.out.println(wrong == 0 ? run + " edges hold" : wrong + " answers are not as due");
        if (wrong != 0 || run == 0) {
            System.exit(1);
        }
    }

    private static void invoke(Method method) {
        test = method.getName();
        method.setAccessible(true);
        try {
            method.invoke(null);
        } catch (InvocationTargetException e) {
            fail("threw " + e.getCause());
        } catch (IllegalAccessException e) {
            fail("can't be run: " + e);
        }
    }

    private static void fail(String what) {
        wrong++;
        System.out.println(test + place() + ": " + what);
    }

    private static String place() {
        return FRAMES.walk(frames -> frames.filter(f -> f.getFileName().endsWith("Test.java")).findFirst()
            .map(f -> " (" + f.getFileName() + ":" + f.getLineNumber() + ")").orElse(""));
    }

    // ---- checks

    static void due(long got, long want) {
        if (got != want) {
            fail("answered " + got + ", due is " + want);
        }
    }

    static void due(boolean got, boolean want) {
        due(bit(got), bit(want));
    }

    static void due(String got, String want) {
        if (!got.equals(want)) {
            fail("is '" + got + "', due is '" + want + "'");
        }
    }

    static long bit(boolean answer) {
        return answer ? 1 : 0;
    }

    /** The call answers so, leaves the text behind, is one ACT, and can be taken back. */
    static void acts(String text, Call call, long answer, String after) {
        ClinchClock x = clock(text);
        due(call.on(x), answer);
        due(x.count(4), 1);
        due(spelt(x), after);
        ClinchClock y = clock(text);
        call.on(y);
        due(y.undo(), 0);
        due(spelt(y), text);
    }

    /** The call answers so, and nothing happens: all that can be asked, undone or read from the tape stays. */
    static void answers(String text, Call call, long answer) {
        ClinchClock asked = clock(text);
        due(call.on(asked), answer);
        due(call.on(asked), answer);
        due(call.on(built(text)), answer);
        for (int undone = 0; undone <= MOST_ACTS; undone++) {
            due(pictureBehind(text, call, undone), pictureAhead(text, undone));
        }
        due(toldBehind(text, call), toldBehind(text, x -> 0));
    }

    /** As answers(), of a call that the document refuses. */
    static void refused(String text, Call call, long answer) {
        answers(text, call, answer);
    }

    /** All numbers out of bounds are refused: those next to the bounds and the farthest. */
    static void outside(String text, int least, int most, NumberCall call, long answer) {
        int[] numbers = {least - 1, most + 1, most + 100, SMALL, BIG};
        for (int n : numbers) {
            refused(text, x -> call.on(x, n), answer);
        }
    }

    static void noSuchBidder(String text, NumberCall call, long answer) {
        outside(text, 0, clock(text).count(0) - 1, call, answer);
    }

    static void noSuchKind(String text, NumberCall call, long answer) {
        outside(text, 0, 3, call, answer);
    }

    /** One answer for each number from 0 on. */
    static void row(String text, NumberCall call, long... answers) {
        for (int n = 0; n < answers.length; n++) {
            int number = n;
            answers(text, x -> call.on(x, number), answers[n]);
        }
    }

    static void fault(String text, int fault) {
        ClinchClock x = clock(RISING);
        feed(x, text);
        due(x.text(), -4 - fault);
        due(picture(x), picture(clock(RISING)));
    }

    static void stands(String text, String spelt) {
        ClinchClock x = clock(RISING);
        feed(x, text);
        due(x.text(), spelt.split("bidder", -1).length - 1);
        due(spelt(x), spelt);
    }

    static void same(Supplier<ClinchClock> got, Supplier<ClinchClock> want) {
        for (int undone = 0; undone <= MOST_ACTS; undone++) {
            due(pictureOf(got.get(), undone), pictureOf(want.get(), undone));
        }
    }

    private static String pictureAhead(String text, int undone) {
        return PICTURES.computeIfAbsent(undone + text, key -> pictureBehind(text, x -> 0, undone));
    }

    private static String pictureBehind(String text, Call call, int undone) {
        ClinchClock x = undone == 0 ? clock(text) : built(text);
        call.on(x);
        return pictureOf(x, undone);
    }

    private static String pictureOf(ClinchClock x, int undone) {
        StringBuilder s = new StringBuilder();
        for (int i = 0; i < undone; i++) {
            s.append(x.undo()).append(' ');
        }
        return s + picture(x);
    }

    private static String toldBehind(String text, Call call) {
        ClinchClock x = built(text);
        call.on(x);
        return x.text() + picture(x);
    }

    /** All that is kept, and what the auction of it comes to; under 200 calls. */
    private static String picture(ClinchClock x) {
        StringBuilder s = new StringBuilder();
        for (int what = 0; what < 10; what++) {
            s.append(x.count(what)).append(' ').append(x.result(what)).append(' ');
        }
        for (int kind = 0; kind < 4; kind++) {
            s.append("paid ").append(x.paid(kind)).append(' ');
        }
        for (int b = 0; b < x.count(0); b++) {
            s.append("; cap ").append(x.of(b, 1));
            int values = x.of(b, 0);
            for (int i = 0; i < values; i++) {
                s.append(' ').append(x.valueOf(b, i));
            }
        }
        int sold = x.result(1);
        for (int k = 0; k < sold; k++) {
            s.append(k == 0 ? "; sold " : " ").append(x.sold(k, 0)).append('/').append(x.sold(k, 1));
        }
        for (int k = 0; k < x.count(7); k++) {
            s.append(k == 0 ? "; record" : ",");
            for (int what = 0; what < 4; what++) {
                s.append(' ').append(x.record(k, what));
            }
        }
        return s.toString();
    }

    // ---- auctions

    /** Told as a text: no ACTS, no RECORD, an empty tape. */
    static ClinchClock clock(String text) {
        ClinchClock x = new ClinchClock();
        feed(x, text);
        int answer = x.text();
        if (answer < 0) {
            throw new IllegalStateException(text + ": " + answer);
        }
        return x;
    }

    /** The same by ACTS, with a full RECORD, and with bytes on the tape. */
    static ClinchClock built(String text) {
        ClinchClock x = new ClinchClock();
        for (int i = 0; i < 9; i++) {
            x.hold(i % 4);
        }
        for (String part : text.split(";")) {
            String[] words = part.split(" ");
            switch (words[0]) {
                case "supply" -> x.supply(Integer.parseInt(words[1]));
                case "reserve" -> x.reserve(Integer.parseInt(words[1]));
                default -> buildBidder(x, words);
            }
        }
        feed(x, TAPE);
        return x;
    }

    private static void buildBidder(ClinchClock x, String[] words) {
        int bidder = x.join();
        for (int i = 1; i < words.length; i++) {
            if (words[i].equals("cap")) {
                x.cap(bidder, Integer.parseInt(words[i + 1]));
                return;
            }
            x.value(bidder, Integer.parseInt(words[i]));
        }
    }

    /** Brings the bytes of a text, and takes back what fills the last twenty. */
    static void feed(ClinchClock x, String text) {
        byte[] bytes = text.getBytes(StandardCharsets.ISO_8859_1);
        int rows = (bytes.length + 19) / 20;
        int[] n = new int[rows * 5];
        for (int i = 0; i < rows * 20; i++) {
            int b = i < bytes.length ? bytes[i] & 255 : 'x';
            n[i / 4] = n[i / 4] << 8 | b;
        }
        for (int r = 0; r < n.length; r += 5) {
            x.feed(n[r], n[r + 1], n[r + 2], n[r + 3], n[r + 4]);
        }
        x.back(rows * 20 - bytes.length);
    }

    static String spelt(ClinchClock x) {
        StringBuilder s = new StringBuilder();
        int bytes = x.spell(NONE);
        for (int i = 0; i < bytes; i++) {
            s.append((char) x.spell(i));
        }
        return s.toString();
    }

    static String reported(ClinchClock x, int kind) {
        StringBuilder s = new StringBuilder();
        int bytes = x.report(kind, NONE);
        for (int i = 0; i < bytes; i++) {
            s.append((char) x.report(kind, i));
        }
        return s.toString();
    }
}
