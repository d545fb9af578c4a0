import java.io.IOException;
import java.nio.file.Files;
import java.nio.file.Path;
import java.util.ArrayList;
import java.util.HashSet;
import java.util.List;
import java.util.NoSuchElementException;
import java.util.Set;

/** Each sentence of the document that names a boundary case has a test of its own here, which names and quotes it. */
public final class ParcelChutesSentences {
    private static final Class<?> INDEX = IndexOutOfBoundsException.class;
    private static final Class<?> ARGUMENT = IllegalArgumentException.class;
    private static final Class<?> STATE = IllegalStateException.class;
    private static final Class<?> ELEMENT = NoSuchElementException.class;

    private static final int LEAST = Integer.MIN_VALUE;
    private static final int MOST = Integer.MAX_VALUE;
    private static final int[] NOT_CHUTES = {-1, 8, -8, 12, 256, LEAST, MOST};
    private static final int[] NOT_WEIGHTS = {-1, 800001, -800000, LEAST, MOST};
    private static final int[] NOT_GIRTHS = {-1, 16001, 800000, -16000, LEAST, MOST};
    private static final int[] NOT_SORTS = {-1, 5, 8, LEAST, MOST};
    private static final int[] NOT_WHATS_OF_EIGHT = {-1, 8, -8, 256, LEAST, MOST};
    private static final int[] NOT_WHATS_OF_THREE = {-1, 3, 4, LEAST, MOST};

    // The streak to come tells which weight came last, which no call reads.
    private static final int[] NEXT_WEIGHTS = {0, 1, 4, 5, 12, 22, 23, 24, 25, 26, 41, 799999, 800000};

    private static final String[] SECTIONS = sections();
    private static final Set<String> TESTED = new HashSet<>();

    private static int wrong = 0;
    private static String sentence = "";

    private interface Making {
        ParcelChutes made();
    }

    private interface Call {
        long answer(ParcelChutes x);
    }

    private static void sentence(String where, String words) {
        sentence = where + ", '" + words + "'";
        if (TESTED.add(sentence) && !section(where).contains(words)) {
            wrong("the document does not say this there");
        }
    }

    /** A section of the document, by the first words of its heading. */
    private static String section(String heading) {
        for (String section : SECTIONS) {
            if (section.startsWith(heading + "\n") || section.startsWith(heading + ":")) {
                return section;
            }
        }
        return "";
    }

    private static String[] sections() {
        try {
            return Files.readString(Path.of("../shared/DOC.md")).split("\n## ");
        } catch (IOException e) {
            System.out.println("the document can't be read: " + e);
            return new String[0];
        }
    }

    private static void wrong(String what) {
        wrong++;
        System.out.println(sentence + ": " + what);
    }

    private static void due(String call, long got, long want) {
        if (got != want) {
            wrong(call + " answered " + got + ", due is " + want);
        }
    }

    private static Class<?> thrown(ParcelChutes x, Call call) {
        try {
            call.answer(x);
            return null;
        } catch (RuntimeException e) {
            return e.getClass();
        }
    }

    /** The call must throw just this class and leave nothing changed behind it. */
    private static void refused(Making making, String told, Class<?> want, Call call) {
        Class<?> got = thrown(making.made(), call);
        if (got != want) {
            wrong(told + " threw " + got + ", due is " + want);
        }
        unchanged(making, told, call);
    }

    /** A refusal that an object in use and a new one must both give. */
    private static void refusedAnywhere(String told, Class<?> want, Call call) {
        refused(ParcelChutesSentences::busy, told, want, call);
        refused(ParcelChutes::new, told + " of a new object", want, call);
    }

    /** Behind the call an object reads, and goes on, as its twin that was never asked. */
    private static void unchanged(Making making, String told, Call call) {
        ParcelChutes asked = making.made();
        thrown(asked, call);
        if (!readings(asked).equals(readings(making.made()))) {
            wrong(told + " changed what can be read");
        }
        for (int weight : NEXT_WEIGHTS) {
            ParcelChutes next = making.made();
            ParcelChutes twin = making.made();
            thrown(next, call);
            if (next.send(weight, 1) != twin.send(weight, 1) || !readings(next).equals(readings(twin))) {
                wrong(told + " changed what send(" + weight + ", 1) does behind it");
            }
        }
    }

    private static List<Integer> readings(ParcelChutes x) {
        List<Integer> all = new ArrayList<>();
        for (int k = 0; k < 8; k++) {
            for (int what = 0; what < 8; what++) {
                all.add(x.chute(k, what));
            }
            all.addAll(lying(x, k));
        }
        for (int what = 0; what < 8; what++) {
            all.add(x.gauge(what));
        }
        return all;
    }

    private static List<Integer> lying(ParcelChutes x, int chute) {
        List<Integer> row = new ArrayList<>();
        int count = x.chute(chute, 5);
        for (int place = 0; place < count; place++) {
            row.add(x.weight(chute, place));
            row.add(x.girth(chute, place));
        }
        return row;
    }

    /** What a chute holds, as it lies: weight, girth, weight, girth, .. */
    private static void dueLying(ParcelChutes x, int chute, int... want) {
        List<Integer> row = new ArrayList<>();
        for (int number : want) {
            row.add(number);
        }
        List<Integer> got = lying(x, chute);
        if (!got.equals(row)) {
            wrong("chute " + chute + " holds " + got + ", due is " + row);
        }
    }

    private static void dueAside(ParcelChutes x, int count, int weight, int girth) {
        due("gauge(5)", x.gauge(5), count);
        due("gauge(6)", x.gauge(6), weight);
        due("gauge(7)", x.gauge(7), girth);
    }

    private static void dueGauges(ParcelChutes x, int lightest, int heaviest, int widest) {
        due("gauge(0)", x.gauge(0), lightest);
        due("gauge(1)", x.gauge(1), heaviest);
        due("gauge(2)", x.gauge(2), widest);
    }

    private static void sendAll(ParcelChutes x, int... parcels) {
        for (int k = 0; k + 1 < parcels.length; k += 2) {
            x.send(parcels[k], parcels[k + 1]);
        }
    }

    private static void sendTimes(ParcelChutes x, int times, int weight, int girth) {
        for (int k = 0; k < times; k++) {
            x.send(weight, girth);
        }
    }

    /** These chutes take whatever comes, being LENIENT and unset; all others nothing, being STRICT and unset. */
    private static ParcelChutes taking(int... chutes) {
        ParcelChutes x = new ParcelChutes();
        for (int chute : chutes) {
            x.sort(chute, 1);
        }
        return x;
    }

    private static ParcelChutes holding(int chute, int... parcels) {
        ParcelChutes x = taking(chute);
        sendAll(x, parcels);
        return x;
    }

    /** Two chutes that take whatever comes and hold these. */
    private static ParcelChutes holdingBoth(int one, int[] ones, int other, int[] others) {
        ParcelChutes x = holding(one, ones);
        x.shut(one, true);
        x.sort(other, 1);
        sendAll(x, others);
        x.shut(one, false);
        return x;
    }

    private static ParcelChutes full(int chute) {
        ParcelChutes x = taking(chute);
        for (int k = 1; k <= 12; k++) {
            x.send(100 * k, k);
        }
        return x;
    }

    private static ParcelChutes with(int chute, int sort, int low, int high, int wide) {
        ParcelChutes x = new ParcelChutes();
        x.sort(chute, sort);
        x.limits(chute, low, high, wide);
        return x;
    }

    /** Every sort; chute 1 full, 3, 5 and 6 empty, 3 and 7 shut; two ASIDE; the latest weight is 24. */
    private static ParcelChutes busy() {
        ParcelChutes x = taking(1);
        for (int k = 0; k < 12; k++) {
            x.send(k % 4 == 0 ? 0 : 30 + k % 4, k % 3);
        }
        x.sort(7, 1);
        sendAll(x, 40, 5, 0, 6, 40, 7, 41, 0);
        x.shut(7, true);
        x.limits(0, 10, 20, 8);
        x.sort(2, 2);
        x.limits(2, 50, 60, 9);
        x.sort(3, 3);
        x.limits(3, 1, 2, 3);
        x.shut(3, true);
        x.sort(4, 4);
        x.limits(4, 20, 25, 15);
        sendAll(x, 12, 3, 50, 1, 3, 9, 0, 9, 26, 2, 22, 4, 24, 5);
        return x;
    }

    private static void busyIsAsTold() {
        sentence("Terms", "A call that throws changes nothing.");
        ParcelChutes x = busy();
        int[] counts = {1, 12, 3, 0, 1, 0, 0, 4};
        for (int k = 0; k < 8; k++) {
            due("how many the busy object's chute " + k + " holds", x.chute(k, 5), counts[k]);
        }
        dueAside(x, 2, 24, 5);
        due("the busy object's streak: 26, then 22, then 24", x.gauge(3), 2);
    }

    // ---- the opening ----

    private static void unknownIsNothingAtAll() {
        sentence("What it is", "what is unknown or unset is neither less, nor more, nor the same as anything, itself too");
        ParcelChutes x = with(0, 0, 10, 0, 0);
        due("signs of unknown and 10", x.signs(0, 0, 0), 32);
        due("signs of 10 and unset", x.signs(0, 1, 10), 32);
        due("signs of unknown and unset", x.signs(0, 2, 0), 32);
        due("heavier of an unknown weight and itself", holding(0, 0, 5).heavier(0, 0), 2);
        due("alike of an unknown weight and itself", holding(0, 0, 5).alike(0, 0), 0);
        due("alike of an unknown girth and itself", holding(0, 5, 0).alike(0, 0), 0);
        due("EXACT, unset, of an unknown parcel", with(0, 2, 0, 0, 0).fits(0, 0), 0);
        due("OTHER, unset, of an unknown parcel", with(0, 3, 0, 0, 0).fits(0, 0), 1);
    }

    private static void fiveHundredAndTwelveCalls() {
        sentence("What it is", "An object is used for at most 512 calls after it has been made");
        ParcelChutes x = new ParcelChutes();
        for (int call = 1; call <= 511; call++) {
            due("call " + call, x.send(call, call), -1);
        }
        due("gauge(5) as call 512", x.gauge(5), 511);
        ParcelChutes y = new ParcelChutes();
        sendTimes(y, 511, 0, 0);
        due("gauge(3) as call 512", y.gauge(3), 511);
        ParcelChutes z = taking(7);
        for (int call = 2; call <= 510; call += 2) {
            due("send as call " + call, z.send(5, call), 7);
            due("take as call " + (call + 1), z.take(7, 5), call);
        }
        due("chute(7, 5) as call 512", z.chute(7, 5), 0);
    }

    // ---- Terms ----

    private static void weightsAsTold() {
        sentence("Terms", "WEIGHTS are told as ints 1 .. 800000");
        for (int weight : new int[] {0, 1, 2, 799999, 800000}) {
            ParcelChutes x = taking(6);
            due("fits(" + weight + ", 1)", x.fits(weight, 1), 64);
            due("send(" + weight + ", 1)", x.send(weight, 1), 6);
            due("weight(6, 0)", x.weight(6, 0), weight);
            due("below(6, " + weight + ")", x.below(6, weight), 0);
            due("signs(6, 0, " + weight + ")", x.signs(6, 0, weight), 32);
            due("signs(6, 1, " + weight + ")", x.signs(6, 1, weight), 32);
            due("take(6, " + weight + ")", x.take(6, weight), 1);
        }
        for (int weight : NOT_WEIGHTS) {
            String told = "(" + weight + ")";
            refusedAnywhere("send" + told, ARGUMENT, x -> x.send(weight, 1));
            refusedAnywhere("fits" + told, ARGUMENT, x -> x.fits(weight, 1));
            refusedAnywhere("signs of LOW" + told, ARGUMENT, x -> x.signs(1, 0, weight));
            refusedAnywhere("signs of HIGH" + told, ARGUMENT, x -> x.signs(1, 1, weight));
            refusedAnywhere("below" + told, ARGUMENT, x -> x.below(1, weight));
            refusedAnywhere("take" + told, ARGUMENT, x -> x.take(1, weight));
        }
    }

    private static void girthsAsTold() {
        sentence("Terms", "GIRTHS as ints 1 .. 16000");
        for (int girth : new int[] {0, 1, 2, 15999, 16000}) {
            ParcelChutes x = taking(6);
            due("fits(1, " + girth + ")", x.fits(1, girth), 64);
            due("send(1, " + girth + ")", x.send(1, girth), 6);
            due("girth(6, 0)", x.girth(6, 0), girth);
            due("signs(6, 2, " + girth + ")", x.signs(6, 2, girth), 32);
            due("take(6, 1)", x.take(6, 1), girth);
        }
        for (int girth : NOT_GIRTHS) {
            String told = "(" + girth + ")";
            refusedAnywhere("send" + told, ARGUMENT, x -> x.send(1, girth));
            refusedAnywhere("fits" + told, ARGUMENT, x -> x.fits(1, girth));
            refusedAnywhere("signs of WIDE" + told, ARGUMENT, x -> x.signs(1, 2, girth));
        }
    }

    private static void toldAsNought() {
        sentence("Terms", "a weight or girth that is told as 0 is UNKNOWN");
        ParcelChutes x = holding(0, 0, 0, 0, 1, 1, 0);
        due("chute(0, 6)", x.chute(0, 6), 2);
        due("chute(0, 7)", x.chute(0, 7), 2);
        due("below(0, 1): 0 is not less", x.below(0, 1), 0);
        dueGauges(x, 1, 1, 1);
    }

    private static void limitsAsTold() {
        sentence("Terms", "LIMITS are told likewise; 0 is UNSET");
        ParcelChutes x = new ParcelChutes();
        due("limits(0, 1, 1, 1)", x.limits(0, 1, 1, 1), 3);
        due("limits(0, 800000, 800000, 16000)", x.limits(0, 800000, 800000, 16000), 3);
        due("LOW", x.chute(0, 1), 800000);
        due("HIGH", x.chute(0, 2), 800000);
        due("WIDE", x.chute(0, 3), 16000);
        due("limits(0, 0, 0, 0)", x.limits(0, 0, 0, 0), 0);
        for (int what = 0; what < 3; what++) {
            due("signs(0, " + what + ", 1)", x.signs(0, what, 1), 32);
        }
    }

    /** The six signs are told apart at every pair of edges, by what each means for ints. */
    private static void signsOfKnownNumbers() {
        sentence("Terms", "if both are known (set) they mean what they mean for ints");
        int[] edges = {1, 2, 3, 127, 128, 129, 15999, 16000};
        for (int ahead : edges) {
            for (int behind : edges) {
                int want = (ahead < behind ? 1 : 0) + (ahead <= behind ? 2 : 0) + (ahead > behind ? 4 : 0)
                        + (ahead >= behind ? 8 : 0) + (ahead == behind ? 16 : 0) + (ahead != behind ? 32 : 0);
                ParcelChutes x = with(5, 0, behind, behind, behind);
                for (int what = 0; what < 3; what++) {
                    due("signs of " + ahead + " and " + behind + ", what " + what, x.signs(5, what, ahead), want);
                }
            }
        }
        ParcelChutes y = with(5, 0, 799999, 800000, 0);
        due("signs of 800000 and 799999", y.signs(5, 0, 800000), 44);
        due("signs of 800000 and 800000", y.signs(5, 1, 800000), 26);
        due("signs of 1 and 800000", y.signs(5, 1, 1), 35);
    }

    private static void signsOfUnknownNumbers() {
        sentence("Terms", "if one of the two, or both, is unknown or unset, # holds and none of the others");
        ParcelChutes set = with(0, 0, 1, 800000, 16000);
        ParcelChutes unset = new ParcelChutes();
        for (int what = 0; what < 3; what++) {
            due("signs of unknown and a set limit " + what, set.signs(0, what, 0), 32);
            due("signs of 1 and an unset limit " + what, unset.signs(0, what, 1), 32);
            due("signs of the most and an unset limit " + what, unset.signs(0, what, what == 2 ? 16000 : 800000), 32);
            due("signs of unknown and an unset limit " + what, unset.signs(0, what, 0), 32);
        }
    }

    private static void chutesAreEight() {
        sentence("Terms", "CHUTES are 0 .. 7.");
        for (int k = 0; k < 8; k++) {
            ParcelChutes x = taking(k);
            due("limits(" + k + ", 1, 800000, 16000)", x.limits(k, 1, 800000, 16000), 3);
            due("send to " + k, x.send(5, 6), k);
            due("fits, bit " + k, x.fits(5, 6), 1 << k);
            due("weight(" + k + ", 0)", x.weight(k, 0), 5);
            due("girth(" + k + ", 0)", x.girth(k, 0), 6);
            due("below(" + k + ", 6)", x.below(k, 6), 1);
            due("heavier(" + k + ", " + k + ")", x.heavier(k, k), 0);
            due("alike(" + k + ", " + k + ")", x.alike(k, k), 1);
            due("shut(" + k + ", true)", x.shut(k, true) ? 1 : 0, 0);
            due("sweep(" + k + ")", x.sweep(k), 0);
            due("pour to the next", x.pour(k, (k + 1) % 8), 0);
            due("take(" + k + ", 5)", x.take(k, 5), 6);
        }
    }

    private static void chutesAtFirst() {
        sentence("Terms", "Each has a SORT (0 at first), three limits, all unset at first: LOW and HIGH of weights, WIDE of girths; "
                + "it is open or shut (open at first)");
        ParcelChutes x = new ParcelChutes();
        for (int k = 0; k < 8; k++) {
            for (int what = 0; what < 5; what++) {
                due("chute(" + k + ", " + what + ")", x.chute(k, what), 0);
            }
            due("shut(" + k + ", false)", x.shut(k, false) ? 1 : 0, 0);
            due("sort(" + k + ", 1)", x.sort(k, 1), 0);
            due("send to the open chute " + k, x.send(k + 1, 1), k);
            x.shut(k, true);
        }
    }

    private static void atMostTwelve() {
        sentence("Terms", "and holds at most 12 PARCELS (none at first)");
        for (int k = 0; k < 8; k++) {
            ParcelChutes x = taking(k);
            due("chute(" + k + ", 5) at first", x.chute(k, 5), 0);
            for (int n = 1; n <= 12; n++) {
                due("send " + n, x.send(n, n), k);
                due("chute(" + k + ", 5)", x.chute(k, 5), n);
            }
            due("send 13", x.send(13, 13), -1);
            due("chute(" + k + ", 5) of a full one", x.chute(k, 5), 12);
            dueAside(x, 1, 13, 13);
        }
    }

    /** A grid of parcels about LOW 10, HIGH 20, WIDE 8, a row a girth: x where the parcel fits. */
    private static void dueGrid(int sort, boolean low, boolean high, boolean wide, String... rows) {
        int[] weights = {0, 9, 10, 11, 19, 20, 21};
        int[] girths = {0, 7, 8, 9};
        for (int row = 0; row < girths.length; row++) {
            for (int column = 0; column < weights.length; column++) {
                ParcelChutes x = with(4, sort, low ? 10 : 0, high ? 20 : 0, wide ? 8 : 0);
                dueFit(x, weights[column], girths[row], rows[row].charAt(column) == 'x');
            }
        }
    }

    /** Chute 4 alone may take it: told by fits(), then done by send() and by pour() from a chute that took it. */
    private static void dueFit(ParcelChutes x, int weight, int girth, boolean want) {
        String told = "(" + weight + ", " + girth + ") with limits " + x.chute(4, 1) + ", " + x.chute(4, 2) + ", " + x.chute(4, 3);
        due("fits" + told, x.fits(weight, girth), want ? 16 : 0);
        due("send" + told, x.send(weight, girth), want ? 4 : -1);
        x.sort(2, 1);
        x.send(weight, girth);
        due("pour of " + told, x.pour(2, 4), want ? 1 : 0);
    }

    private static void strictFits() {
        sentence("Terms", "0 STRICT: if LOW <= weight, weight < HIGH, and girth <= WIDE.");
        String no = ".......";
        dueGrid(0, true, true, true, no, "..xxx..", "..xxx..", no);
        dueGrid(0, false, true, true, no, no, no, no);
        dueGrid(0, true, false, true, no, no, no, no);
        dueGrid(0, true, true, false, no, no, no, no);
        dueGrid(0, false, false, true, no, no, no, no);
        dueGrid(0, false, true, false, no, no, no, no);
        dueGrid(0, true, false, false, no, no, no, no);
        dueGrid(0, false, false, false, no, no, no, no);
        dueFit(with(4, 0, 1, 800000, 16000), 1, 16000, true);
        dueFit(with(4, 0, 1, 800000, 16000), 799999, 1, true);
        dueFit(with(4, 0, 1, 800000, 16000), 800000, 1, false);
        dueFit(with(4, 0, 10, 10, 8), 10, 8, false);
    }

    private static void lenientFits() {
        sentence("Terms", "1 LENIENT: if none of these holds: weight < LOW, weight >= HIGH, girth > WIDE.");
        String no = ".......";
        String all = "xxxxxxx";
        dueGrid(1, true, true, true, "x.xxx..", "x.xxx..", "x.xxx..", no);
        dueGrid(1, false, true, true, "xxxxx..", "xxxxx..", "xxxxx..", no);
        dueGrid(1, true, false, true, "x.xxxxx", "x.xxxxx", "x.xxxxx", no);
        dueGrid(1, true, true, false, "x.xxx..", "x.xxx..", "x.xxx..", "x.xxx..");
        dueGrid(1, false, false, true, all, all, all, no);
        dueGrid(1, false, true, false, "xxxxx..", "xxxxx..", "xxxxx..", "xxxxx..");
        dueGrid(1, true, false, false, "x.xxxxx", "x.xxxxx", "x.xxxxx", "x.xxxxx");
        dueGrid(1, false, false, false, all, all, all, all);
        dueFit(with(4, 1, 1, 800000, 16000), 800000, 1, false);
        dueFit(with(4, 1, 800000, 0, 1), 800000, 1, true);
        dueFit(with(4, 1, 10, 10, 8), 10, 8, false);
        dueFit(with(4, 1, 10, 10, 8), 0, 8, true);
    }

    private static void exactFits() {
        sentence("Terms", "2 EXACT: if weight = LOW, or girth = WIDE.");
        String no = ".......";
        String all = "xxxxxxx";
        String low = "..x....";
        dueGrid(2, true, true, true, low, low, all, low);
        dueGrid(2, false, true, true, no, no, all, no);
        dueGrid(2, true, false, true, low, low, all, low);
        dueGrid(2, true, true, false, low, low, low, low);
        dueGrid(2, false, false, true, no, no, all, no);
        dueGrid(2, false, true, false, no, no, no, no);
        dueGrid(2, true, false, false, low, low, low, low);
        dueGrid(2, false, false, false, no, no, no, no);
        dueFit(with(4, 2, 800000, 0, 16000), 800000, 1, true);
        dueFit(with(4, 2, 800000, 0, 16000), 16000, 16000, true);
        dueFit(with(4, 2, 800000, 0, 16000), 16000, 1, false);
    }

    private static void otherFits() {
        sentence("Terms", "3 OTHER: if weight # LOW, weight # HIGH, and girth # WIDE.");
        String no = ".......";
        String all = "xxxxxxx";
        dueGrid(3, true, true, true, "xx.xx.x", "xx.xx.x", no, "xx.xx.x");
        dueGrid(3, false, true, true, "xxxxx.x", "xxxxx.x", no, "xxxxx.x");
        dueGrid(3, true, false, true, "xx.xxxx", "xx.xxxx", no, "xx.xxxx");
        dueGrid(3, true, true, false, "xx.xx.x", "xx.xx.x", "xx.xx.x", "xx.xx.x");
        dueGrid(3, false, false, true, all, all, no, all);
        dueGrid(3, false, true, false, "xxxxx.x", "xxxxx.x", "xxxxx.x", "xxxxx.x");
        dueGrid(3, true, false, false, "xx.xxxx", "xx.xxxx", "xx.xxxx", "xx.xxxx");
        dueGrid(3, false, false, false, all, all, all, all);
        dueFit(with(4, 3, 1, 800000, 16000), 1, 1, false);
        dueFit(with(4, 3, 1, 800000, 16000), 800000, 1, false);
        dueFit(with(4, 3, 1, 800000, 16000), 16000, 15999, true);
    }

    private static void beyondFits() {
        sentence("Terms", "4 BEYOND: if weight > HIGH, or weight < LOW, or girth >= WIDE.");
        String no = ".......";
        String all = "xxxxxxx";
        dueGrid(4, true, true, true, ".x....x", ".x....x", all, all);
        dueGrid(4, false, true, true, "......x", "......x", all, all);
        dueGrid(4, true, false, true, ".x.....", ".x.....", all, all);
        dueGrid(4, true, true, false, ".x....x", ".x....x", ".x....x", ".x....x");
        dueGrid(4, false, false, true, no, no, all, all);
        dueGrid(4, false, true, false, "......x", "......x", "......x", "......x");
        dueGrid(4, true, false, false, ".x.....", ".x.....", ".x.....", ".x.....");
        dueGrid(4, false, false, false, no, no, no, no);
        dueFit(with(4, 4, 1, 800000, 16000), 800000, 15999, false);
        dueFit(with(4, 4, 1, 799999, 16000), 800000, 15999, true);
        dueFit(with(4, 4, 10, 10, 8), 10, 7, false);
    }

    private static void knownWeightsLieByWeight() {
        sentence("Terms", "PARCELS in a chute LIE at places 0, 1, .. : first those of known weights, the least first");
        dueLying(holding(3, 800000, 1, 1, 2, 5, 3, 4, 4, 799999, 5), 3, 1, 2, 4, 4, 5, 3, 799999, 5, 800000, 1);
        ParcelChutes falling = taking(3);
        for (int weight = 12; weight >= 1; weight--) {
            falling.send(weight, weight);
        }
        dueLying(falling, 3, 1, 1, 2, 2, 3, 3, 4, 4, 5, 5, 6, 6, 7, 7, 8, 8, 9, 9, 10, 10, 11, 11, 12, 12);
    }

    private static void equalWeightsLieAsTheyCame() {
        sentence("Terms", "of equal weights the one that came in first");
        dueLying(holding(3, 5, 9, 5, 1, 7, 0, 5, 0, 5, 8), 3, 5, 9, 5, 1, 5, 0, 5, 8, 7, 0);
        ParcelChutes x = taking(3);
        for (int girth = 12; girth >= 1; girth--) {
            x.send(800000, girth);
        }
        dueLying(x, 3, 800000, 12, 800000, 11, 800000, 10, 800000, 9, 800000, 8, 800000, 7, 800000, 6, 800000, 5,
                800000, 4, 800000, 3, 800000, 2, 800000, 1);
    }

    private static void unknownWeightsLieBehind() {
        sentence("Terms", "behind them those of unknown weights, as they came in");
        dueLying(holding(3, 0, 9, 0, 1, 800000, 2, 0, 0, 1, 3, 0, 1), 3, 1, 3, 800000, 2, 0, 9, 0, 1, 0, 0, 0, 1);
        ParcelChutes x = taking(3);
        sendTimes(x, 11, 0, 4);
        due("send(800000, 5) ahead of eleven unknown ones", x.send(800000, 5), 3);
        due("weight(3, 0)", x.weight(3, 0), 800000);
        due("weight(3, 11)", x.weight(3, 11), 0);
    }

    private static void thoseBehindMoveUp() {
        sentence("Terms", "When one is taken out, those behind it move up.");
        ParcelChutes x = holding(3, 1, 1, 2, 2, 3, 3, 0, 4, 0, 5);
        x.take(3, 2);
        dueLying(x, 3, 1, 1, 3, 3, 0, 4, 0, 5);
        x.take(3, 1);
        dueLying(x, 3, 3, 3, 0, 4, 0, 5);
        x.take(3, 0);
        dueLying(x, 3, 3, 3, 0, 5);
        x.take(3, 0);
        dueLying(x, 3, 3, 3);
        x.take(3, 3);
        dueLying(x, 3);
        ParcelChutes y = full(0);
        y.take(0, 100);
        dueLying(y, 0, 200, 2, 300, 3, 400, 4, 500, 5, 600, 6, 700, 7, 800, 8, 900, 9, 1000, 10, 1100, 11, 1200, 12);
        y.take(0, 1200);
        dueLying(y, 0, 200, 2, 300, 3, 400, 4, 500, 5, 600, 6, 700, 7, 800, 8, 900, 9, 1000, 10, 1100, 11);
    }

    private static void asideIsCounted() {
        sentence("Terms", "ASIDE is where parcels go that no chute takes: they are counted; of the latest one the weight and girth are kept");
        ParcelChutes x = new ParcelChutes();
        x.send(5, 6);
        dueAside(x, 1, 5, 6);
        x.send(4, 0);
        dueAside(x, 2, 4, 0);
        x.send(0, 7);
        dueAside(x, 3, 0, 7);
        x.send(0, 0);
        dueAside(x, 4, 0, 0);
        x.sort(0, 1);
        x.send(9, 9);
        dueAside(x, 4, 0, 0);
        x.limits(0, 10, 0, 0);
        x.sweep(0);
        dueAside(x, 5, 9, 9);
    }

    private static void gaugesOfWhatCame() {
        sentence("Terms", "GAUGES, of all parcels that came by send()");
        ParcelChutes x = new ParcelChutes();
        x.send(5, 6);
        dueGauges(x, 5, 5, 6);
        x.sort(0, 1);
        x.send(3, 9);
        x.send(8, 1);
        dueGauges(x, 3, 8, 9);
        x.sort(1, 1);
        x.pour(0, 1);
        x.limits(1, 4, 7, 2);
        x.sweep(1);
        x.fits(1, 16000);
        x.signs(0, 0, 800000);
        dueGauges(x, 3, 8, 9);
        due("gauge(3)", x.gauge(3), 2);
        due("gauge(4)", x.gauge(4), 3);
    }

    private static void gaugesUnsetAhead() {
        sentence("Terms", "each unset ahead of the first");
        ParcelChutes x = new ParcelChutes();
        dueGauges(x, 0, 0, 0);
        x.send(0, 0);
        dueGauges(x, 0, 0, 0);
        x.send(0, 3);
        dueGauges(x, 0, 0, 3);
        x.send(800000, 0);
        dueGauges(x, 800000, 800000, 3);
        x.send(0, 0);
        dueGauges(x, 800000, 800000, 3);
        ParcelChutes y = new ParcelChutes();
        y.send(1, 1);
        dueGauges(y, 1, 1, 1);
    }

    private static void gaugesOfTheKnown() {
        sentence("Terms", "LIGHTEST, HEAVIEST: the least and greatest of the known weights, WIDEST: the greatest of the known girths");
        ParcelChutes x = new ParcelChutes();
        sendAll(x, 10, 10, 11, 11);
        dueGauges(x, 10, 11, 11);
        sendAll(x, 9, 9);
        dueGauges(x, 9, 11, 11);
        sendAll(x, 0, 12, 10, 0);
        dueGauges(x, 9, 11, 12);
        sendAll(x, 1, 16000, 800000, 1);
        dueGauges(x, 1, 800000, 16000);
        sendAll(x, 2, 15999, 799999, 2, 0, 0);
        dueGauges(x, 1, 800000, 16000);
    }

    private static void dueStreaks(int[] weights, int... want) {
        ParcelChutes x = new ParcelChutes();
        due("the streak at first", x.gauge(3), 0);
        for (int k = 0; k < weights.length; k++) {
            x.send(weights[k], 1);
            due("the streak with parcel " + k + " of weight " + weights[k], x.gauge(3), want[k]);
        }
    }

    private static void streakGoesOn() {
        sentence("Terms", "the STREAK: 0 at first; with each parcel it is 1 more");
        dueStreaks(new int[] {5, 5, 6, 6, 800000}, 1, 2, 3, 4, 5);
        dueStreaks(new int[] {0, 0, 5, 0, 5}, 1, 2, 3, 4, 5);
        dueStreaks(new int[] {5, 0, 4, 0, 3}, 1, 2, 3, 4, 5);
        dueStreaks(new int[] {800000, 0, 1}, 1, 2, 3);
    }

    private static void streakBreaks() {
        sentence("Terms", "unless its weight < the weight of the parcel that came just ahead of it: then it is 1");
        dueStreaks(new int[] {5, 4, 3, 3, 4, 3}, 1, 1, 1, 2, 3, 1);
        dueStreaks(new int[] {9, 2, 5, 4}, 1, 1, 2, 1);
        dueStreaks(new int[] {0, 800000, 799999, 0, 1, 1}, 1, 2, 1, 2, 3, 4);
        ParcelChutes x = taking(0);
        sendAll(x, 5, 1, 5, 1);
        x.shut(0, true);
        due("send(4, 1) ASIDE", x.send(4, 1), -1);
        due("gauge(3), one taken, then one ASIDE", x.gauge(3), 1);
        x.shut(0, false);
        due("send(3, 1)", x.send(3, 1), 0);
        due("gauge(3), one ASIDE, then one taken", x.gauge(3), 1);
    }

    private static void streakOfWhatCameBySend() {
        sentence("Terms", "the weight of the parcel that came just ahead of it");
        Call[] moves = {x -> x.take(0, 9), x -> x.pour(0, 1), x -> x.sweep(0)};
        for (Call move : moves) {
            ParcelChutes x = holding(0, 9, 1, 20, 1);
            x.sort(1, 1);
            x.limits(1, 0, 10, 0);
            x.limits(0, 10, 0, 0);
            move.answer(x);
            dueLying(x, 0, 20, 1);
            due("gauge(3), 9 moved", x.gauge(3), 2);
            x.send(15, 1);
            due("gauge(3): 20 came just ahead of 15, though 9 moved", x.gauge(3), 1);
        }
    }

    private static void throwingChangesNothing() {
        sentence("Terms", "A call that throws changes nothing.");
        ParcelChutes x = taking(0);
        sendAll(x, 5, 5, 7, 7);
        for (int k = 0; k < 20; k++) {
            thrown(x, y -> y.send(1, 16001));
            thrown(x, y -> y.send(800001, 1));
            thrown(x, y -> y.take(0, 6));
            thrown(x, y -> y.pour(0, 0));
            thrown(x, y -> y.sort(0, 2));
            thrown(x, y -> y.limits(0, 9, 8, 7));
        }
        dueLying(x, 0, 5, 5, 7, 7);
        due("gauge(4)", x.gauge(4), 2);
        x.send(6, 6);
        due("gauge(3): 7 came just ahead of 6", x.gauge(3), 1);
        dueLying(x, 0, 5, 5, 6, 6, 7, 7);
    }

    private static void firstNamedExceptionIsThrown() {
        sentence("Terms", "Of several exceptions the first one that the call names is thrown.");
        for (int chute : NOT_CHUTES) {
            refusedAnywhere("sort, no chute, no sort", INDEX, x -> x.sort(chute, 5));
            refusedAnywhere("limits, no chute, no numbers", INDEX, x -> x.limits(chute, -1, 800001, 16001));
            refusedAnywhere("limits, no chute, HIGH < LOW", INDEX, x -> x.limits(chute, 2, 1, 0));
            refusedAnywhere("signs, no chute, no what", INDEX, x -> x.signs(chute, 3, 1));
            refusedAnywhere("signs, no chute, no number", INDEX, x -> x.signs(chute, 0, -1));
            refusedAnywhere("chute, no chute, no what", INDEX, x -> x.chute(chute, 8));
            refusedAnywhere("weight, no chute, no place", INDEX, x -> x.weight(chute, -1));
            refusedAnywhere("girth, no chute, no place", INDEX, x -> x.girth(chute, 12));
            refusedAnywhere("below, no chute, no weight", INDEX, x -> x.below(chute, -1));
            refusedAnywhere("take, no chute, no weight", INDEX, x -> x.take(chute, 800001));
            refusedAnywhere("take, no chute, no parcel", INDEX, x -> x.take(chute, 777));
            refusedAnywhere("pour, no chute twice", INDEX, x -> x.pour(chute, chute));
        }
        refused(ParcelChutesSentences::busy, "sort, no sort, it holds parcels", ARGUMENT, x -> x.sort(1, 5));
        refusedAnywhere("limits, LOW too large and so HIGH < LOW", ARGUMENT, x -> x.limits(2, 800001, 5, 1));
        refusedAnywhere("limits, HIGH too small and so HIGH < LOW", ARGUMENT, x -> x.limits(2, 5, -1, 1));
        refusedAnywhere("limits, no WIDE, HIGH < LOW", ARGUMENT, x -> x.limits(2, 6, 5, 16001));
        refusedAnywhere("take, no weight, so no parcel", ARGUMENT, x -> x.take(5, -1));
    }

    // ---- Promise 1 ----

    private static void newObject() {
        sentence("Promise 1", "All chutes are as at first; nothing came.");
        ParcelChutes used = busy();
        ParcelChutes x = new ParcelChutes();
        for (int number : readings(x)) {
            due("a reading of a new object", number, 0);
        }
        for (int k = 0; k < 8; k++) {
            due("below(" + k + ", 800000)", x.below(k, 800000), 0);
            due("sweep(" + k + ")", x.sweep(k), 0);
            due("heavier(" + k + ", 0)", x.heavier(k, 0), 2);
            due("alike(" + k + ", 0)", x.alike(k, 0), 0);
        }
        due("fits(0, 0)", x.fits(0, 0), 0);
        due("send(1, 1)", x.send(1, 1), -1);
        due("how many came to the object in use", used.gauge(4), 23);
    }

    // ---- Promise 2 ----

    private static void sortAnswersTheFormer() {
        sentence("Promise 2", "A chute gets a sort, 0 .. 4: the sort that it had.");
        ParcelChutes x = new ParcelChutes();
        int[] sorts = {0, 4, 4, 3, 0, 1, 2, 0};
        int had = 0;
        for (int sort : sorts) {
            due("sort(7, " + sort + ")", x.sort(7, sort), had);
            due("chute(7, 0)", x.chute(7, 0), sort);
            due("chute(0, 0)", x.chute(0, 0), 0);
            had = sort;
        }
        ParcelChutes y = with(3, 0, 4, 5, 6);
        y.shut(3, true);
        y.sort(3, 4);
        due("LOW stays", y.chute(3, 1), 4);
        due("it stays shut", y.chute(3, 4), 1);
    }

    private static void sortOfNoChute() {
        sentence("Promise 2", "IndexOutOfBoundsException: there is no such chute (here and below)");
        for (int chute : NOT_CHUTES) {
            refusedAnywhere("sort(" + chute + ", 1)", INDEX, x -> x.sort(chute, 1));
        }
    }

    private static void noSuchSort() {
        sentence("Promise 2", "IllegalArgumentException: there is no such sort");
        for (int sort : NOT_SORTS) {
            refusedAnywhere("sort(3, " + sort + ")", ARGUMENT, x -> x.sort(3, sort));
            refusedAnywhere("sort(0, " + sort + ")", ARGUMENT, x -> x.sort(0, sort));
        }
    }

    private static void sortOfChuteThatHolds() {
        sentence("Promise 2", "IllegalStateException: it holds parcels");
        for (int k = 0; k <= 4; k++) {
            int sort = k;
            refused(() -> holding(6, 5, 5), "sort(6, " + k + ") of one parcel", STATE, x -> x.sort(6, sort));
            refused(() -> holding(6, 0, 0), "sort(6, " + k + ") of an unknown one", STATE, x -> x.sort(6, sort));
            refused(() -> full(6), "sort(6, " + k + ") of twelve", STATE, x -> x.sort(6, sort));
        }
        ParcelChutes taken = holding(6, 5, 5);
        taken.take(6, 5);
        due("sort(6, 2), the last one taken", taken.sort(6, 2), 1);
        ParcelChutes poured = holding(6, 5, 5);
        poured.sort(0, 1);
        poured.pour(6, 0);
        due("sort(6, 2), the last one poured out", poured.sort(6, 2), 1);
        due("sort of the one poured into", thrown(poured, x -> x.sort(0, 2)) == STATE ? 1 : 0, 1);
        ParcelChutes swept = holding(6, 5, 5);
        swept.limits(6, 6, 0, 0);
        swept.sweep(6);
        due("sort(6, 2), the last one swept", swept.sort(6, 2), 1);
    }

    // ---- Promise 3 ----

    private static void limitsLeaveWhatItHolds() {
        sentence("Promise 3", "A chute gets limits (what it holds stays)");
        ParcelChutes x = holding(2, 5, 5, 0, 0, 9, 9);
        due("limits(2, 800000, 800000, 1)", x.limits(2, 800000, 800000, 1), 3);
        dueLying(x, 2, 5, 5, 9, 9, 0, 0);
        dueAside(x, 0, 0, 0);
        due("LOW of the next chute", x.chute(3, 1), 0);
        due("chute(2, 0)", x.chute(2, 0), 1);
        ParcelChutes y = full(2);
        due("limits of a full one", y.limits(2, 0, 1, 0), 1);
        due("chute(2, 5)", y.chute(2, 5), 12);
    }

    private static void howManyLimitsAreSet() {
        sentence("Promise 3", "how many of the three are set");
        ParcelChutes x = new ParcelChutes();
        int[][] rows = {{0, 0, 0, 0}, {5, 0, 0, 1}, {0, 5, 0, 1}, {0, 0, 5, 1}, {5, 5, 0, 2}, {5, 0, 5, 2}, {0, 5, 5, 2},
            {5, 5, 5, 3}, {0, 0, 0, 0}};
        for (int[] row : rows) {
            due("limits(7, " + row[0] + ", " + row[1] + ", " + row[2] + ")", x.limits(7, row[0], row[1], row[2]), row[3]);
            due("LOW", x.chute(7, 1), row[0]);
            due("HIGH", x.chute(7, 2), row[1]);
            due("WIDE", x.chute(7, 3), row[2]);
        }
    }

    private static void limitsOfNoChute() {
        sentence("Promise 3", "`int limits(int chute, int low, int high, int wide) throws IndexOutOfBoundsException");
        for (int chute : NOT_CHUTES) {
            refusedAnywhere("limits(" + chute + ", 1, 2, 3)", INDEX, x -> x.limits(chute, 1, 2, 3));
        }
    }

    private static void limitsNotAsTold() {
        sentence("Promise 3", "IllegalArgumentException: one of the numbers is not as told");
        for (int number : NOT_WEIGHTS) {
            refusedAnywhere("limits(2, " + number + ", 0, 7)", ARGUMENT, x -> x.limits(2, number, 0, 7));
            refusedAnywhere("limits(2, 7, " + number + ", 7)", ARGUMENT, x -> x.limits(2, 7, number, 7));
        }
        for (int number : NOT_GIRTHS) {
            refusedAnywhere("limits(2, 7, 8, " + number + ")", ARGUMENT, x -> x.limits(2, 7, 8, number));
        }
        due("LOW and HIGH are weights, beyond 16000", new ParcelChutes().limits(2, 16001, 16002, 0), 2);
    }

    private static void highBelowLow() {
        sentence("Promise 3", "IllegalStateException: HIGH < LOW");
        int[][] refused = {{2, 1}, {800000, 799999}, {800000, 1}, {51, 50}};
        for (int[] pair : refused) {
            refusedAnywhere("limits(2, " + pair[0] + ", " + pair[1] + ", 7)", STATE, x -> x.limits(2, pair[0], pair[1], 7));
            refusedAnywhere("limits(2, " + pair[0] + ", " + pair[1] + ", 0)", STATE, x -> x.limits(2, pair[0], pair[1], 0));
        }
        int[][] taken = {{1, 1, 2}, {1, 2, 2}, {800000, 800000, 2}, {800000, 0, 1}, {0, 1, 1}, {1, 0, 1}, {0, 0, 0}};
        for (int[] row : taken) {
            due("limits(2, " + row[0] + ", " + row[1] + ", 0)", busy().limits(2, row[0], row[1], 0), row[2]);
        }
        due("limits(2, 9, 9, 1): WIDE is no weight", new ParcelChutes().limits(2, 9, 9, 1), 3);
        ParcelChutes x = with(2, 0, 5, 6, 0);
        due("limits below the former ones", x.limits(2, 1, 2, 0), 2);
        due("limits above the former ones", x.limits(2, 8, 9, 0), 2);
    }

    // ---- Promise 4 ----

    private static void shutAnswersTheFormer() {
        sentence("Promise 4", "A chute is shut (true), or open: whether it was shut.");
        ParcelChutes x = holding(7, 5, 5);
        boolean[] asked = {false, true, true, false, false, true};
        int was = 0;
        for (boolean shut : asked) {
            due("shut(7, " + shut + ")", x.shut(7, shut) ? 1 : 0, was);
            was = shut ? 1 : 0;
            due("chute(7, 4)", x.chute(7, 4), was);
            due("chute(6, 4)", x.chute(6, 4), 0);
            dueLying(x, 7, 5, 5);
        }
    }

    private static void shutOfNoChute() {
        sentence("Promise 4", "`boolean shut(int chute, boolean shut) throws IndexOutOfBoundsException`");
        for (int chute : NOT_CHUTES) {
            refusedAnywhere("shut(" + chute + ", true)", INDEX, x -> x.shut(chute, true) ? 1 : 0);
            refusedAnywhere("shut(" + chute + ", false)", INDEX, x -> x.shut(chute, false) ? 1 : 0);
        }
    }

    // ---- Promise 5 ----

    private static void sendToTheFirst() {
        sentence("Promise 5", "It goes to the first chute, from 0 on, that is open, holds fewer than 12 and that it fits: its number");
        ParcelChutes all = taking(0, 1, 2, 3, 4, 5, 6, 7);
        for (int k = 0; k < 8; k++) {
            for (int n = 0; n < 12; n++) {
                due("parcel " + n + " of chute " + k, all.send(5, 5), k);
            }
        }
        due("send with all chutes full", all.send(5, 5), -1);
        all.take(3, 5);
        due("send to the room in 3", all.send(6, 6), 3);
        due("send with all full again", all.send(6, 6), -1);
        ParcelChutes x = taking(1, 2, 4);
        x.shut(1, true);
        x.limits(2, 10, 0, 0);
        due("past the shut 1 and 2 that it does not fit", x.send(9, 1), 4);
        due("past the shut 1", x.send(10, 1), 2);
        x.shut(1, false);
        due("to 1, opened", x.send(10, 1), 1);
        due("gauge(4)", x.gauge(4), 3);
        dueAside(x, 0, 0, 0);
    }

    private static void sendAside() {
        sentence("Promise 5", "-1: there is none, it goes ASIDE");
        ParcelChutes none = new ParcelChutes();
        due("send(5, 6) that fits none", none.send(5, 6), -1);
        dueAside(none, 1, 5, 6);
        ParcelChutes shut = taking(0, 7);
        shut.shut(0, true);
        shut.shut(7, true);
        due("send(0, 6), all shut", shut.send(0, 6), -1);
        dueAside(shut, 1, 0, 6);
        due("chute(0, 5)", shut.chute(0, 5), 0);
        ParcelChutes full = full(7);
        due("send(800000, 0), all full", full.send(800000, 0), -1);
        dueAside(full, 1, 800000, 0);
        due("weight(7, 11)", full.weight(7, 11), 1200);
        due("gauge(4)", full.gauge(4), 13);
    }

    private static void sendNotAsTold() {
        sentence("Promise 5", "it goes ASIDE. IllegalArgumentException: a number is not as told.");
        for (int weight : NOT_WEIGHTS) {
            refusedAnywhere("send(" + weight + ", 5)", ARGUMENT, x -> x.send(weight, 5));
            refusedAnywhere("send(" + weight + ", 0)", ARGUMENT, x -> x.send(weight, 0));
            refused(() -> taking(0), "send(" + weight + ", 5) to one that takes all", ARGUMENT, x -> x.send(weight, 5));
        }
        for (int girth : NOT_GIRTHS) {
            refusedAnywhere("send(5, " + girth + ")", ARGUMENT, x -> x.send(5, girth));
            refusedAnywhere("send(800000, " + girth + ")", ARGUMENT, x -> x.send(800000, girth));
            refusedAnywhere("send(0, " + girth + ")", ARGUMENT, x -> x.send(0, girth));
            refused(() -> taking(0), "send(5, " + girth + ") to one that takes all", ARGUMENT, x -> x.send(5, girth));
        }
        refusedAnywhere("send(-1, -1)", ARGUMENT, x -> x.send(-1, -1));
    }

    // ---- Promise 6 ----

    private static void fitsWhateverIsShutOrFull() {
        sentence("Promise 6", "Which chutes a parcel fits (whether they are open or full doesn't matter): bit k for chute k.");
        due("fits(5, 5) of none", new ParcelChutes().fits(5, 5), 0);
        due("fits(5, 5) of all", taking(0, 1, 2, 3, 4, 5, 6, 7).fits(5, 5), 255);
        due("fits(5, 5) of 0 and 7", taking(0, 7).fits(5, 5), 129);
        ParcelChutes x = taking(0, 6, 7);
        sendTimes(x, 12, 5, 5);
        x.shut(6, true);
        due("fits(5, 5), 0 full, 6 shut", x.fits(5, 5), 193);
        x.shut(0, true);
        due("fits(5, 5), 0 full and shut", x.fits(5, 5), 193);
        x.limits(0, 6, 0, 0);
        due("fits(5, 5), 0 holds such parcels and has new limits", x.fits(5, 5), 192);
    }

    private static void fitsDoesNotCome() {
        sentence("Promise 6", "It doesn't come.");
        for (int weight : new int[] {0, 1, 12, 800000}) {
            unchanged(ParcelChutesSentences::busy, "fits(" + weight + ", 16000)", x -> x.fits(weight, 16000));
            unchanged(() -> taking(0), "fits(" + weight + ", 1)", x -> x.fits(weight, 1));
            unchanged(ParcelChutes::new, "fits(" + weight + ", 0)", x -> x.fits(weight, 0));
        }
    }

    private static void fitsNotAsTold() {
        sentence("Promise 6", "It doesn't come. IllegalArgumentException: a number is not as told.");
        for (int weight : NOT_WEIGHTS) {
            refusedAnywhere("fits(" + weight + ", 5)", ARGUMENT, x -> x.fits(weight, 5));
            refusedAnywhere("fits(" + weight + ", 0)", ARGUMENT, x -> x.fits(weight, 0));
        }
        for (int girth : NOT_GIRTHS) {
            refusedAnywhere("fits(5, " + girth + ")", ARGUMENT, x -> x.fits(5, girth));
            refusedAnywhere("fits(0, " + girth + ")", ARGUMENT, x -> x.fits(0, girth));
        }
    }

    // ---- Promise 7 ----

    private static void signsOfNumberAheadOfLimit() {
        sentence("Promise 7", "Which signs hold between a number (ahead) and a limit of a chute (behind): what 0 LOW, 1 HIGH, 2 WIDE");
        ParcelChutes x = with(7, 4, 10, 20, 15);
        int[] limits = {10, 20, 15};
        for (int what = 0; what < 3; what++) {
            due("signs one below limit " + what, x.signs(7, what, limits[what] - 1), 1 + 2 + 32);
            due("signs at limit " + what, x.signs(7, what, limits[what]), 2 + 8 + 16);
            due("signs one above limit " + what, x.signs(7, what, limits[what] + 1), 4 + 8 + 32);
        }
        ParcelChutes low = with(7, 0, 10, 0, 0);
        due("signs of 5 and HIGH, LOW alone is set", low.signs(7, 1, 5), 32);
        due("signs of 5 and LOW, LOW alone is set", low.signs(7, 0, 5), 35);
        unchanged(ParcelChutesSentences::busy, "signs(0, 0, 800000)", y -> y.signs(0, 0, 800000));
    }

    private static void signsTogether() {
        sentence("Promise 7", "1 for <, 2 for <=, 4 for >, 8 for >=, 16 for =, 32 for #, together");
        ParcelChutes x = with(3, 0, 2, 800000, 0);
        due("signs(3, 0, 1)", x.signs(3, 0, 1), 1 + 2 + 32);
        due("signs(3, 0, 2)", x.signs(3, 0, 2), 2 + 8 + 16);
        due("signs(3, 0, 3)", x.signs(3, 0, 3), 4 + 8 + 32);
        due("signs(3, 1, 799999)", x.signs(3, 1, 799999), 1 + 2 + 32);
        due("signs(3, 1, 800000)", x.signs(3, 1, 800000), 2 + 8 + 16);
        due("signs(3, 2, 16000)", x.signs(3, 2, 16000), 32);
    }

    private static void signsOfGirthOrWeight() {
        sentence("Promise 7", "(the number is a girth then, else a weight)");
        ParcelChutes x = with(0, 0, 1, 1, 1);
        due("signs(0, 0, 16001)", x.signs(0, 0, 16001), 44);
        due("signs(0, 1, 16001)", x.signs(0, 1, 16001), 44);
        due("signs(0, 0, 800000)", x.signs(0, 0, 800000), 44);
        due("signs(0, 1, 800000)", x.signs(0, 1, 800000), 44);
        due("signs(0, 2, 16000)", x.signs(0, 2, 16000), 44);
        refusedAnywhere("signs(0, 2, 16001)", ARGUMENT, y -> y.signs(0, 2, 16001));
    }

    private static void signsOfNoChute() {
        sentence("Promise 7", "`int signs(int chute, int what, int number) throws IndexOutOfBoundsException, IllegalArgumentException`");
        for (int chute : NOT_CHUTES) {
            for (int k = 0; k < 3; k++) {
                int what = k;
                refusedAnywhere("signs(" + chute + ", " + k + ", 5)", INDEX, x -> x.signs(chute, what, 5));
            }
        }
    }

    private static void signsNotAsTold() {
        sentence("Promise 7", "IllegalArgumentException: the number is not as told, or there is no such what.");
        for (int what : NOT_WHATS_OF_THREE) {
            refusedAnywhere("signs(0, " + what + ", 5)", ARGUMENT, x -> x.signs(0, what, 5));
            refusedAnywhere("signs(0, " + what + ", 0)", ARGUMENT, x -> x.signs(0, what, 0));
            refusedAnywhere("signs(0, " + what + ", -1)", ARGUMENT, x -> x.signs(0, what, -1));
        }
        for (int number : NOT_WEIGHTS) {
            for (int k = 0; k < 3; k++) {
                int what = k;
                refusedAnywhere("signs(0, " + k + ", " + number + ")", ARGUMENT, x -> x.signs(0, what, number));
                refusedAnywhere("signs(6, " + k + ", " + number + ") of unset", ARGUMENT, x -> x.signs(6, what, number));
            }
        }
        for (int number : NOT_GIRTHS) {
            refusedAnywhere("signs(6, 2, " + number + ")", ARGUMENT, x -> x.signs(6, 2, number));
        }
    }

    // ---- Promise 8 ----

    private static void chuteTold() {
        sentence("Promise 8", "what 0 its sort, 1 LOW, 2 HIGH, 3 WIDE (0 if unset), 4 whether it is shut (1, 0)");
        ParcelChutes x = with(7, 4, 11, 12, 13);
        x.shut(7, true);
        int[] want = {4, 11, 12, 13, 1, 0, 0, 0};
        for (int what = 0; what < 8; what++) {
            due("chute(7, " + what + ")", x.chute(7, what), want[what]);
            due("chute(6, " + what + ")", x.chute(6, what), 0);
        }
        x.limits(7, 0, 0, 0);
        x.shut(7, false);
        x.sort(7, 0);
        for (int what = 0; what < 8; what++) {
            due("chute(7, " + what + ") as at first", x.chute(7, what), 0);
        }
    }

    private static void chuteCounts() {
        sentence("Promise 8", "5 how many parcels it holds, 6 how many of these have an unknown weight, 7 how many an unknown girth");
        ParcelChutes x = taking(7);
        int[][] parcels = {{5, 5}, {0, 5}, {5, 0}, {0, 0}, {0, 1}, {6, 0}, {0, 0}, {0, 0}, {1, 1}, {0, 0}, {0, 0}, {0, 0}};
        int weights = 0;
        int girths = 0;
        for (int k = 0; k < 12; k++) {
            x.send(parcels[k][0], parcels[k][1]);
            weights += parcels[k][0] == 0 ? 1 : 0;
            girths += parcels[k][1] == 0 ? 1 : 0;
            due("chute(7, 5)", x.chute(7, 5), k + 1);
            due("chute(7, 6)", x.chute(7, 6), weights);
            due("chute(7, 7)", x.chute(7, 7), girths);
        }
        x.send(0, 0);
        due("chute(7, 6), one more went ASIDE", x.chute(7, 6), 8);
        while (x.chute(7, 6) > 0) {
            x.take(7, 0);
        }
        due("chute(7, 5), the unknown weights taken out", x.chute(7, 5), 4);
        due("chute(7, 7), the unknown weights taken out", x.chute(7, 7), 2);
        ParcelChutes unknown = taking(2);
        sendTimes(unknown, 12, 0, 0);
        due("chute(2, 6) of twelve unknown", unknown.chute(2, 6), 12);
        due("chute(2, 7) of twelve unknown", unknown.chute(2, 7), 12);
    }

    private static void chuteOfNoChute() {
        sentence("Promise 8", "`int chute(int chute, int what) throws IndexOutOfBoundsException, IllegalArgumentException`");
        for (int chute : NOT_CHUTES) {
            for (int k = 0; k < 8; k++) {
                int what = k;
                refusedAnywhere("chute(" + chute + ", " + k + ")", INDEX, x -> x.chute(chute, what));
            }
        }
    }

    private static void chuteOfNoWhat() {
        sentence("Promise 8", "7 how many an unknown girth. IllegalArgumentException: there is no such what.");
        for (int what : NOT_WHATS_OF_EIGHT) {
            refusedAnywhere("chute(0, " + what + ")", ARGUMENT, x -> x.chute(0, what));
            refusedAnywhere("chute(1, " + what + ")", ARGUMENT, x -> x.chute(1, what));
        }
    }

    // ---- Promises 9 and 10 ----

    private static void weightAtPlace() {
        sentence("Promise 9", "The weight of the parcel at a place of a chute (0 if unknown).");
        ParcelChutes x = holding(7, 800000, 3, 1, 2, 0, 1);
        due("weight(7, 0)", x.weight(7, 0), 1);
        due("weight(7, 1)", x.weight(7, 1), 800000);
        due("weight(7, 2)", x.weight(7, 2), 0);
        due("weight(0, 11) of a full one", full(0).weight(0, 11), 1200);
        unchanged(ParcelChutesSentences::busy, "weight(1, 11)", y -> y.weight(1, 11));
    }

    private static void girthAtPlace() {
        sentence("Promise 10", "Its girth (0 if unknown).");
        ParcelChutes x = holding(7, 800000, 16000, 1, 1, 0, 7, 0, 0);
        due("girth(7, 0)", x.girth(7, 0), 1);
        due("girth(7, 1)", x.girth(7, 1), 16000);
        due("girth(7, 2)", x.girth(7, 2), 7);
        due("girth(7, 3)", x.girth(7, 3), 0);
        due("girth(0, 11) of a full one", full(0).girth(0, 11), 12);
        unchanged(ParcelChutesSentences::busy, "girth(1, 11)", y -> y.girth(1, 11));
    }

    private static void weightAndGirthOfNoChute() {
        sentence("Promise 9", "`int weight(int chute, int place) throws IndexOutOfBoundsException, NoSuchElementException`");
        for (int chute : NOT_CHUTES) {
            refusedAnywhere("weight(" + chute + ", 0)", INDEX, x -> x.weight(chute, 0));
        }
        sentence("Promise 10", "`int girth(int chute, int place) throws IndexOutOfBoundsException, NoSuchElementException`");
        for (int chute : NOT_CHUTES) {
            refusedAnywhere("girth(" + chute + ", 0)", INDEX, x -> x.girth(chute, 0));
        }
    }

    /** The places at which a chute of so many parcels has none. */
    private static int[] emptyPlaces(int count) {
        return new int[] {-1, count, count + 1, -count - 1, 12, 13, 256, LEAST, MOST};
    }

    private static void noParcelAtPlace() {
        int[] counts = {0, 1, 11, 12};
        for (int count : counts) {
            Making making = () -> {
                ParcelChutes x = taking(5);
                sendTimes(x, count, 7, 7);
                return x;
            };
            for (int place : emptyPlaces(count)) {
                sentence("Promise 9", "(0 if unknown). NoSuchElementException: there is none.");
                refused(making, "weight(5, " + place + ") of " + count, ELEMENT, x -> x.weight(5, place));
                sentence("Promise 10", "Its girth (0 if unknown). NoSuchElementException: there is none.");
                refused(making, "girth(5, " + place + ") of " + count, ELEMENT, x -> x.girth(5, place));
            }
        }
    }

    private static void noParcelAtPlaceLeft() {
        Making emptied = () -> {
            ParcelChutes x = full(5);
            x.take(5, 1200);
            x.take(5, 100);
            return x;
        };
        sentence("Promise 9", "(0 if unknown). NoSuchElementException: there is none.");
        refused(emptied, "weight(5, 10), two taken out", ELEMENT, x -> x.weight(5, 10));
        due("weight(5, 9), two taken out", emptied.made().weight(5, 9), 1100);
        sentence("Promise 10", "Its girth (0 if unknown). NoSuchElementException: there is none.");
        refused(emptied, "girth(5, 10), two taken out", ELEMENT, x -> x.girth(5, 10));
        due("girth(5, 9), two taken out", emptied.made().girth(5, 9), 11);
    }

    // ---- Promise 11 ----

    private static void belowCounts() {
        sentence("Promise 11", "How many parcels of a chute have a weight < this one");
        due("below(5, 800000) of none", new ParcelChutes().below(5, 800000), 0);
        ParcelChutes x = holding(5, 1, 1, 5, 1, 5, 1, 800000, 1, 0, 1);
        int[][] rows = {{1, 0}, {2, 1}, {4, 1}, {5, 1}, {6, 3}, {799999, 3}, {800000, 3}};
        for (int[] row : rows) {
            due("below(5, " + row[0] + ")", x.below(5, row[0]), row[1]);
        }
        due("below(5, 800000) of twelve", full(5).below(5, 800000), 12);
        due("below(5, 1200) of twelve", full(5).below(5, 1200), 11);
        due("below(5, 100) of twelve", full(5).below(5, 100), 0);
        due("below(5, 800000) of one unknown", holding(5, 0, 1).below(5, 800000), 0);
        unchanged(ParcelChutesSentences::busy, "below(1, 33)", y -> y.below(1, 33));
    }

    private static void belowUnknown() {
        sentence("Promise 11", "(none, if this one is unknown)");
        due("below(5, 0)", holding(5, 1, 1, 0, 1, 800000, 1).below(5, 0), 0);
        due("below(5, 0) of twelve", full(5).below(5, 0), 0);
        due("below(5, 0) of one unknown", holding(5, 0, 1).below(5, 0), 0);
        due("below(5, 0) of none", new ParcelChutes().below(5, 0), 0);
    }

    private static void belowOfNoChute() {
        sentence("Promise 11", "`int below(int chute, int weight) throws IndexOutOfBoundsException, IllegalArgumentException`");
        for (int chute : NOT_CHUTES) {
            refusedAnywhere("below(" + chute + ", 5)", INDEX, x -> x.below(chute, 5));
            refusedAnywhere("below(" + chute + ", 0)", INDEX, x -> x.below(chute, 0));
        }
    }

    private static void belowNotAsTold() {
        sentence("Promise 11", "IllegalArgumentException: it is not as told.");
        for (int weight : NOT_WEIGHTS) {
            refusedAnywhere("below(1, " + weight + ")", ARGUMENT, x -> x.below(1, weight));
            refusedAnywhere("below(5, " + weight + ") of none", ARGUMENT, x -> x.below(5, weight));
        }
    }

    // ---- Promise 12 ----

    private static void takeFirstAsTheyLie() {
        sentence("Promise 12", "The first parcel as they lie whose weight = this one is taken out of a chute");
        ParcelChutes x = holding(7, 5, 9, 5, 1, 4, 2, 5, 3, 0, 4, 6, 5);
        due("take(7, 5)", x.take(7, 5), 9);
        dueLying(x, 7, 4, 2, 5, 1, 5, 3, 6, 5, 0, 4);
        due("take(7, 5) again", x.take(7, 5), 1);
        due("take(7, 6), the last known", x.take(7, 6), 5);
        dueLying(x, 7, 4, 2, 5, 3, 0, 4);
        x.send(5, 8);
        due("take(7, 5), one came in behind it", x.take(7, 5), 3);
        x.shut(7, true);
        due("take(7, 5) of a shut one", x.take(7, 5), 8);
        dueLying(x, 7, 4, 2, 0, 4);
        dueAside(x, 0, 0, 0);
        due("gauge(4)", x.gauge(4), 7);
        ParcelChutes full = full(0);
        due("take(0, 1200) of twelve", full.take(0, 1200), 12);
        due("send(800000, 13) to the room", full.send(800000, 13), 0);
        due("take(0, 800000)", full.take(0, 800000), 13);
    }

    private static void takeUnknown() {
        sentence("Promise 12", "told as 0: the first one whose weight is unknown: its girth (0 if unknown)");
        ParcelChutes x = holding(7, 0, 9, 5, 5, 0, 0, 0, 1);
        due("take(7, 0)", x.take(7, 0), 9);
        dueLying(x, 7, 5, 5, 0, 0, 0, 1);
        due("take(7, 0) of an unknown girth", x.take(7, 0), 0);
        due("take(7, 0) once more", x.take(7, 0), 1);
        dueLying(x, 7, 5, 5);
        due("take(3, 5) of an unknown girth", holding(3, 5, 0).take(3, 5), 0);
        ParcelChutes y = taking(3);
        for (int girth = 12; girth >= 1; girth--) {
            y.send(0, girth);
        }
        for (int girth = 12; girth >= 1; girth--) {
            due("take(3, 0) of unknown ones", y.take(3, 0), girth);
        }
    }

    private static void takeOfNoChute() {
        sentence("Promise 12",
                "`int take(int chute, int weight) throws IndexOutOfBoundsException, IllegalArgumentException, NoSuchElementException`");
        for (int chute : NOT_CHUTES) {
            refusedAnywhere("take(" + chute + ", 5)", INDEX, x -> x.take(chute, 5));
            refusedAnywhere("take(" + chute + ", 0)", INDEX, x -> x.take(chute, 0));
        }
    }

    private static void takeNotAsTold() {
        sentence("Promise 12", "IllegalArgumentException: the weight is not as told");
        for (int weight : NOT_WEIGHTS) {
            refusedAnywhere("take(1, " + weight + ")", ARGUMENT, x -> x.take(1, weight));
            refusedAnywhere("take(7, " + weight + ")", ARGUMENT, x -> x.take(7, weight));
        }
    }

    private static void takeOfNoParcel() {
        sentence("Promise 12", "NoSuchElementException: there is no such parcel");
        refusedAnywhere("take(5, 1) of none", ELEMENT, x -> x.take(5, 1));
        refusedAnywhere("take(5, 0) of none", ELEMENT, x -> x.take(5, 0));
        refused(() -> holding(5, 6, 6, 8, 8), "take(5, 7) between", ELEMENT, x -> x.take(5, 7));
        refused(() -> holding(5, 6, 6, 8, 8), "take(5, 5) below", ELEMENT, x -> x.take(5, 5));
        refused(() -> holding(5, 6, 6, 8, 8), "take(5, 9) above", ELEMENT, x -> x.take(5, 9));
        refused(() -> holding(5, 6, 6, 8, 8), "take(5, 0) of known ones", ELEMENT, x -> x.take(5, 0));
        refused(() -> holding(5, 6, 0, 8, 0), "take(5, 0) of unknown girths", ELEMENT, x -> x.take(5, 0));
        refused(() -> holding(5, 0, 6), "take(5, 6) of a girth 6", ELEMENT, x -> x.take(5, 6));
        refused(() -> holding(5, 6, 6), "take(4, 6), it lies in 5", ELEMENT, x -> x.take(4, 6));
        refused(() -> full(5), "take(5, 800000) of twelve", ELEMENT, x -> x.take(5, 800000));
        refused(() -> full(5), "take(5, 0) of twelve known", ELEMENT, x -> x.take(5, 0));
        Making taken = () -> {
            ParcelChutes x = holding(5, 6, 6, 0, 1);
            x.take(5, 0);
            x.take(5, 6);
            return x;
        };
        refused(taken, "take(5, 6), it has been taken", ELEMENT, x -> x.take(5, 6));
        refused(taken, "take(5, 0), it has been taken", ELEMENT, x -> x.take(5, 0));
    }

    // ---- Promise 13 ----

    private static void pourAsTheyLie() {
        sentence("Promise 13", "The parcels of one chute are gone through as they lie: each that fits the other chute goes there");
        int[] ones = {9, 1, 5, 2, 0, 3, 5, 4, 2, 5, 0, 6};
        int[] others = {5, 7, 9, 8, 0, 9};
        ParcelChutes x = holdingBoth(1, ones, 6, others);
        due("pour(1, 6)", x.pour(1, 6), 6);
        dueLying(x, 1);
        dueLying(x, 6, 2, 5, 5, 7, 5, 2, 5, 4, 9, 8, 9, 1, 0, 9, 0, 3, 0, 6);
        ParcelChutes y = holdingBoth(1, ones, 6, others);
        y.limits(6, 5, 9, 0);
        due("pour(1, 6) of some", y.pour(1, 6), 4);
        dueLying(y, 1, 2, 5, 9, 1);
        dueLying(y, 6, 5, 7, 5, 2, 5, 4, 9, 8, 0, 9, 0, 3, 0, 6);
        due("pour(1, 6) again", y.pour(1, 6), 0);
        due("pour(6, 1) back, what 6 holds fits 1", y.pour(6, 1), 7);
        dueLying(y, 1, 2, 5, 5, 7, 5, 2, 5, 4, 9, 1, 9, 8, 0, 9, 0, 3, 0, 6);
        dueAside(y, 0, 0, 0);
        due("gauge(4)", y.gauge(4), 9);
    }

    private static void pourOfNone() {
        sentence("Promise 13", "how many went");
        ParcelChutes x = holding(1, 5, 5, 6, 6);
        due("pour(0, 1) of an empty one", x.pour(0, 1), 0);
        due("pour(1, 0), none fits", x.pour(1, 0), 0);
        dueLying(x, 1, 5, 5, 6, 6);
        dueLying(x, 0);
        due("pour(2, 3), both empty", x.pour(2, 3), 0);
    }

    private static void pourUntilTwelve() {
        sentence("Promise 13", "as long as that holds fewer than 12");
        ParcelChutes x = full(7);
        x.take(7, 100);
        x.shut(7, true);
        x.sort(0, 1);
        sendAll(x, 5, 1, 3, 2, 0, 3, 4, 4);
        due("pour(0, 7) into room for one", x.pour(0, 7), 1);
        dueLying(x, 0, 4, 4, 5, 1, 0, 3);
        due("chute(7, 5)", x.chute(7, 5), 12);
        due("weight(7, 0)", x.weight(7, 0), 3);
        due("pour(0, 7) into a full one", x.pour(0, 7), 0);
        dueLying(x, 0, 4, 4, 5, 1, 0, 3);
        due("pour(7, 0) into room for nine", x.pour(7, 0), 9);
        due("chute(0, 5)", x.chute(0, 5), 12);
        dueLying(x, 7, 1000, 10, 1100, 11, 1200, 12);
        due("weight(0, 10)", x.weight(0, 10), 900);
        due("weight(0, 11)", x.weight(0, 11), 0);
        ParcelChutes y = full(7);
        due("pour(7, 0) of twelve that do not fit", y.pour(7, 0), 0);
        y.sort(0, 1);
        due("pour(7, 0) of twelve", y.pour(7, 0), 12);
        due("chute(7, 5)", y.chute(7, 5), 0);
        due("chute(0, 5)", y.chute(0, 5), 12);
        dueAside(y, 0, 0, 0);
    }

    private static void pourPastWhatDoesNotFit() {
        sentence("Promise 13", "each that fits the other chute goes there, as long as that holds fewer than 12");
        ParcelChutes x = full(7);
        x.take(7, 1100);
        x.shut(7, true);
        x.limits(7, 500, 0, 0);
        x.sort(0, 1);
        sendAll(x, 3, 1, 600, 2, 700, 3);
        due("pour(0, 7), the first one does not fit", x.pour(0, 7), 1);
        dueLying(x, 0, 3, 1, 700, 3);
        due("weight(7, 6), behind its equal", x.weight(7, 6), 600);
        due("girth(7, 6), behind its equal", x.girth(7, 6), 2);
        due("chute(7, 5)", x.chute(7, 5), 12);
    }

    private static void pourWhateverIsShut() {
        sentence("Promise 13", "(whether they are open doesn't matter)");
        for (int shut = 0; shut < 4; shut++) {
            ParcelChutes x = holding(1, 5, 5);
            x.sort(6, 1);
            x.shut(1, shut % 2 == 1);
            x.shut(6, shut / 2 == 1);
            due("pour(1, 6), shut " + shut, x.pour(1, 6), 1);
            dueLying(x, 6, 5, 5);
            due("chute(1, 4)", x.chute(1, 4), shut % 2);
            due("chute(6, 4)", x.chute(6, 4), shut / 2);
        }
    }

    private static void pourOfNoChute() {
        sentence("Promise 13", "`int pour(int from, int to) throws IndexOutOfBoundsException, IllegalArgumentException`");
        for (int chute : NOT_CHUTES) {
            refusedAnywhere("pour(" + chute + ", 1)", INDEX, x -> x.pour(chute, 1));
            refusedAnywhere("pour(1, " + chute + ")", INDEX, x -> x.pour(1, chute));
            refusedAnywhere("pour(" + chute + ", 8)", INDEX, x -> x.pour(chute, 8));
        }
    }

    private static void pourIntoItself() {
        sentence("Promise 13", "IllegalArgumentException: both are one chute.");
        for (int k = 0; k < 8; k++) {
            int chute = k;
            refusedAnywhere("pour(" + k + ", " + k + ")", ARGUMENT, x -> x.pour(chute, chute));
        }
    }

    // ---- Promise 14 ----

    private static void sweepWhatDoesNotFit() {
        sentence("Promise 14", "The parcels of a chute that do not fit it are taken out, as they lie, and go ASIDE: how many.");
        ParcelChutes x = holding(7, 12, 1, 0, 2, 3, 3, 5, 4, 0, 9, 10, 6, 4, 0);
        due("sweep(7), all fit", x.sweep(7), 0);
        dueAside(x, 0, 0, 0);
        x.limits(7, 4, 10, 8);
        due("sweep(7)", x.sweep(7), 4);
        dueLying(x, 7, 4, 0, 5, 4, 0, 2);
        dueAside(x, 4, 0, 9);
        due("sweep(7) again", x.sweep(7), 0);
        dueAside(x, 4, 0, 9);
        x.limits(7, 6, 0, 0);
        x.shut(7, true);
        due("sweep(7) of a shut one", x.sweep(7), 2);
        dueAside(x, 6, 5, 4);
        dueLying(x, 7, 0, 2);
        due("gauge(4)", x.gauge(4), 7);
        due("gauge(3)", x.gauge(3), 1);
        dueGauges(x, 3, 12, 9);
    }

    private static void sweepOfNoneOrAll() {
        sentence("Promise 14", "go ASIDE: how many");
        for (int k = 0; k < 8; k++) {
            int chute = k;
            due("sweep(" + k + ") of none", new ParcelChutes().sweep(k), 0);
            unchanged(ParcelChutes::new, "sweep(" + k + ") of none", x -> x.sweep(chute));
        }
        ParcelChutes all = full(3);
        all.limits(3, 800000, 0, 0);
        due("sweep(3) of twelve", all.sweep(3), 12);
        dueLying(all, 3);
        dueAside(all, 12, 1200, 12);
        ParcelChutes none = full(3);
        due("sweep(3) of twelve that fit", none.sweep(3), 0);
        due("chute(3, 5)", none.chute(3, 5), 12);
        ParcelChutes last = full(3);
        last.limits(3, 0, 1200, 0);
        due("sweep(3) of the last one", last.sweep(3), 1);
        dueAside(last, 1, 1200, 12);
        ParcelChutes first = full(3);
        first.limits(3, 101, 0, 0);
        due("sweep(3) of the first one", first.sweep(3), 1);
        dueAside(first, 1, 100, 1);
        due("weight(3, 0)", first.weight(3, 0), 200);
        due("send(900, 1) to the room made", first.send(900, 1), 3);
    }

    private static void sweepOfEachSort() {
        sentence("Promise 14", "The parcels of a chute that do not fit it are taken out");
        ParcelChutes strict = with(2, 0, 10, 20, 8);
        sendAll(strict, 10, 8, 15, 1, 15, 2);
        strict.limits(2, 15, 20, 0);
        due("sweep(2), STRICT, WIDE unset", strict.sweep(2), 3);
        dueAside(strict, 3, 15, 2);
        ParcelChutes exact = with(2, 2, 10, 0, 8);
        sendAll(exact, 10, 1, 0, 8, 11, 8);
        exact.limits(2, 0, 0, 8);
        due("sweep(2), EXACT, LOW unset", exact.sweep(2), 1);
        dueLying(exact, 2, 11, 8, 0, 8);
        ParcelChutes other = with(2, 3, 0, 0, 0);
        sendAll(other, 10, 1, 0, 8, 20, 9, 11, 11);
        other.limits(2, 10, 20, 8);
        due("sweep(2), OTHER", other.sweep(2), 3);
        dueLying(other, 2, 11, 11);
        dueAside(other, 3, 0, 8);
        ParcelChutes beyond = with(2, 4, 10, 20, 8);
        sendAll(beyond, 9, 1, 21, 1, 0, 8);
        beyond.limits(2, 0, 20, 9);
        due("sweep(2), BEYOND, LOW unset", beyond.sweep(2), 2);
        dueLying(beyond, 2, 21, 1);
    }

    private static void sweepOfNoChute() {
        sentence("Promise 14", "`int sweep(int chute) throws IndexOutOfBoundsException`");
        for (int chute : NOT_CHUTES) {
            refusedAnywhere("sweep(" + chute + ")", INDEX, x -> x.sweep(chute));
        }
    }

    // ---- Promise 15 ----

    private static void dueHeavier(int[] ones, int[] others, int want) {
        ParcelChutes x = holdingBoth(0, ones, 7, others);
        due("heavier(0, 7)", x.heavier(0, 7), want);
        due("heavier(7, 0)", x.heavier(7, 0), want == 2 ? 2 : -want);
    }

    private static void heavierOfKnown() {
        sentence("Promise 15",
                "The heaviest known weights in two chutes: 1 the first chute's > the second's, -1 it is <, 0 they are =");
        dueHeavier(new int[] {6, 1}, new int[] {5, 1}, 1);
        dueHeavier(new int[] {5, 1}, new int[] {6, 1}, -1);
        dueHeavier(new int[] {5, 1}, new int[] {5, 2}, 0);
        dueHeavier(new int[] {800000, 1, 1, 1}, new int[] {799999, 1, 799999, 2}, 1);
        dueHeavier(new int[] {1, 1, 5, 1, 0, 1}, new int[] {0, 2, 0, 3, 4, 1, 5, 1}, 0);
        dueHeavier(new int[] {0, 16000, 2, 1}, new int[] {1, 16000}, 1);
        due("heavier(5, 5) of twelve", full(5).heavier(5, 5), 0);
        due("heavier(5, 5) of one", holding(5, 1, 1).heavier(5, 5), 0);
        unchanged(ParcelChutesSentences::busy, "heavier(1, 7)", y -> y.heavier(1, 7));
    }

    private static void heavierOfNone() {
        sentence("Promise 15", "2 none of these holds (also if a chute holds none of known weight)");
        int[] none = {};
        int[] unknown = {0, 5, 0, 6};
        int[] known = {5, 5};
        dueHeavier(none, none, 2);
        dueHeavier(none, unknown, 2);
        dueHeavier(none, known, 2);
        dueHeavier(unknown, unknown, 2);
        dueHeavier(unknown, known, 2);
        due("heavier(3, 3) of none", new ParcelChutes().heavier(3, 3), 2);
        due("heavier(3, 3) of unknown ones", holding(3, unknown).heavier(3, 3), 2);
        ParcelChutes x = holding(3, 5, 5, 0, 5);
        x.take(3, 5);
        due("heavier(3, 3), the known one taken", x.heavier(3, 3), 2);
        ParcelChutes twelve = taking(3);
        sendTimes(twelve, 12, 0, 5);
        due("heavier(3, 3) of twelve unknown", twelve.heavier(3, 3), 2);
    }

    private static void heavierOfNoChute() {
        sentence("Promise 15", "`int heavier(int one, int other) throws IndexOutOfBoundsException`");
        for (int chute : NOT_CHUTES) {
            refusedAnywhere("heavier(" + chute + ", 1)", INDEX, x -> x.heavier(chute, 1));
            refusedAnywhere("heavier(1, " + chute + ")", INDEX, x -> x.heavier(1, chute));
            refusedAnywhere("heavier(" + chute + ", " + chute + ")", INDEX, x -> x.heavier(chute, chute));
        }
    }

    // ---- Promise 16 ----

    private static void dueAlike(int[] ones, int[] others, int want) {
        ParcelChutes x = holdingBoth(0, ones, 7, others);
        due("alike(0, 7)", x.alike(0, 7), want);
        due("alike(7, 0)", x.alike(7, 0), want);
    }

    private static void alikePlaceByPlace() {
        sentence("Promise 16", "Up to which place two chutes hold parcels whose weights are = and whose girths are =, place by place");
        dueAlike(new int[] {1, 1, 2, 2}, new int[] {1, 1, 2, 2}, 2);
        dueAlike(new int[] {2, 2, 1, 1}, new int[] {1, 1, 2, 2}, 2);
        dueAlike(new int[] {5, 1, 5, 2}, new int[] {5, 2, 5, 1}, 0);
        due("alike(4, 4) of twelve", full(4).alike(4, 4), 12);
        ParcelChutes x = full(4);
        x.sort(5, 1);
        for (int k = 1; k <= 12; k++) {
            x.send(100 * k, k);
        }
        due("alike(4, 5) of twelve", x.alike(4, 5), 12);
        x.take(5, 1200);
        due("alike(4, 5) of twelve and eleven", x.alike(4, 5), 11);
        unchanged(ParcelChutesSentences::busy, "alike(1, 7)", y -> y.alike(1, 7));
    }

    private static void alikeEnds() {
        sentence("Promise 16", "how many places (the first at which one isn't =, or has no parcel, ends it)");
        int[] row = {1, 1, 2, 2, 3, 3};
        dueAlike(row, new int[] {1, 2, 2, 2, 3, 3}, 0);
        dueAlike(row, new int[] {2, 2, 3, 3}, 0);
        dueAlike(row, new int[] {1, 1, 2, 3, 3, 3}, 1);
        dueAlike(row, new int[] {1, 1, 3, 3}, 1);
        dueAlike(row, new int[] {1, 1, 2, 2}, 2);
        dueAlike(row, new int[] {1, 1, 2, 2, 3, 4}, 2);
        dueAlike(row, new int[] {1, 1, 2, 2, 4, 3}, 2);
        dueAlike(row, new int[] {1, 1, 2, 2, 3, 3, 4, 4}, 3);
        dueAlike(row, new int[] {}, 0);
        dueAlike(new int[] {}, new int[] {}, 0);
        dueAlike(new int[] {1, 0, 2, 2}, new int[] {1, 0, 2, 2}, 0);
        dueAlike(new int[] {1, 1, 2, 0, 3, 3}, new int[] {1, 1, 2, 0, 3, 3}, 1);
        dueAlike(new int[] {1, 1, 0, 2}, new int[] {1, 1, 0, 2}, 1);
        dueAlike(new int[] {1, 1, 2, 0}, new int[] {1, 1, 2, 2}, 1);
        due("alike(3, 3) up to an unknown weight", holding(3, 1, 1, 0, 1).alike(3, 3), 1);
        due("alike(3, 3) up to an unknown girth", holding(3, 1, 1, 2, 0, 3, 3).alike(3, 3), 1);
        due("alike(3, 3) of none", new ParcelChutes().alike(3, 3), 0);
        ParcelChutes left = holdingBoth(0, row, 7, row);
        left.take(0, 3);
        due("alike(0, 7), the last one taken of 0", left.alike(0, 7), 2);
        due("alike(7, 0), the last one taken of 0", left.alike(7, 0), 2);
        left.take(7, 3);
        due("alike(0, 7), the last ones taken", left.alike(0, 7), 2);
    }

    private static void alikeOfNoChute() {
        sentence("Promise 16", "`int alike(int one, int other) throws IndexOutOfBoundsException`");
        for (int chute : NOT_CHUTES) {
            refusedAnywhere("alike(" + chute + ", 1)", INDEX, x -> x.alike(chute, 1));
            refusedAnywhere("alike(1, " + chute + ")", INDEX, x -> x.alike(1, chute));
            refusedAnywhere("alike(" + chute + ", " + chute + ")", INDEX, x -> x.alike(chute, chute));
        }
    }

    // ---- Promise 17 ----

    private static void gaugeTold() {
        sentence("Promise 17", "What 0 LIGHTEST, 1 HEAVIEST, 2 WIDEST (0 if unset), 3 the STREAK, 4 how many parcels came by send()");
        ParcelChutes x = new ParcelChutes();
        for (int what = 0; what < 8; what++) {
            due("gauge(" + what + ") at first", x.gauge(what), 0);
        }
        x.sort(0, 1);
        sendAll(x, 11, 21, 13, 23, 12, 22, 0, 0, 12, 0);
        int[] want = {11, 13, 23, 3, 5, 0, 0, 0};
        for (int what = 0; what < 8; what++) {
            due("gauge(" + what + ")", x.gauge(what), want[what]);
            int at = what;
            unchanged(ParcelChutesSentences::busy, "gauge(" + what + ")", y -> y.gauge(at));
        }
        while (x.chute(0, 6) > 0) {
            x.take(0, 0);
        }
        due("gauge(4), one taken out", x.gauge(4), 5);
    }

    private static void gaugeOfAside() {
        sentence("Promise 17", "5 how many went ASIDE, 6 the weight, 7 the girth of the latest one there (0 if unknown, or there was none)");
        ParcelChutes x = taking(0);
        x.send(5, 5);
        dueAside(x, 0, 0, 0);
        x.shut(0, true);
        x.send(800000, 16000);
        dueAside(x, 1, 800000, 16000);
        x.send(0, 3);
        dueAside(x, 2, 0, 3);
        x.send(4, 0);
        dueAside(x, 3, 4, 0);
        x.limits(0, 6, 0, 0);
        x.sweep(0);
        dueAside(x, 4, 5, 5);
        due("gauge(4): what sweep() puts ASIDE came once", x.gauge(4), 4);
    }

    private static void gaugeOfNoWhat() {
        sentence("Promise 17", "there was none). IllegalArgumentException: there is no such what.");
        for (int what : NOT_WHATS_OF_EIGHT) {
            refusedAnywhere("gauge(" + what + ")", ARGUMENT, x -> x.gauge(what));
        }
    }

    private static void testOpeningAndTerms() {
        busyIsAsTold();
        unknownIsNothingAtAll();
        fiveHundredAndTwelveCalls();
        weightsAsTold();
        girthsAsTold();
        toldAsNought();
        limitsAsTold();
        signsOfKnownNumbers();
        signsOfUnknownNumbers();
        chutesAreEight();
        chutesAtFirst();
        atMostTwelve();
        strictFits();
        lenientFits();
        exactFits();
        otherFits();
        beyondFits();
        knownWeightsLieByWeight();
        equalWeightsLieAsTheyCame();
        unknownWeightsLieBehind();
        thoseBehindMoveUp();
        asideIsCounted();
        gaugesOfWhatCame();
        gaugesUnsetAhead();
        gaugesOfTheKnown();
        streakGoesOn();
        streakBreaks();
        streakOfWhatCameBySend();
        throwingChangesNothing();
        firstNamedExceptionIsThrown();
    }

    private static void testPromisesOneToEight() {
        newObject();
        sortAnswersTheFormer();
        sortOfNoChute();
        noSuchSort();
        sortOfChuteThatHolds();
        limitsLeaveWhatItHolds();
        howManyLimitsAreSet();
        limitsOfNoChute();
        limitsNotAsTold();
        highBelowLow();
        shutAnswersTheFormer();
        shutOfNoChute();
        sendToTheFirst();
        sendAside();
        sendNotAsTold();
        fitsWhateverIsShutOrFull();
        fitsDoesNotCome();
        fitsNotAsTold();
        signsOfNumberAheadOfLimit();
        signsTogether();
        signsOfGirthOrWeight();
        signsOfNoChute();
        signsNotAsTold();
        chuteTold();
        chuteCounts();
        chuteOfNoChute();
        chuteOfNoWhat();
    }

    private static void testPromisesNineToSeventeen() {
        weightAtPlace();
        girthAtPlace();
        weightAndGirthOfNoChute();
        noParcelAtPlace();
        noParcelAtPlaceLeft();
        belowCounts();
        belowUnknown();
        belowOfNoChute();
        belowNotAsTold();
        takeFirstAsTheyLie();
        takeUnknown();
        takeOfNoChute();
        takeNotAsTold();
        takeOfNoParcel();
        pourAsTheyLie();
        pourOfNone();
        pourUntilTwelve();
        pourPastWhatDoesNotFit();
        pourWhateverIsShut();
        pourOfNoChute();
        pourIntoItself();
        sweepWhatDoesNotFit();
        sweepOfNoneOrAll();
        sweepOfEachSort();
        sweepOfNoChute();
        heavierOfKnown();
        heavierOfNone();
        heavierOfNoChute();
        alikePlaceByPlace();
        alikeEnds();
        alikeOfNoChute();
        gaugeTold();
        gaugeOfAside();
        gaugeOfNoWhat();
    }

    public static void main(String[] args) {
        testOpeningAndTerms();
        testPromisesOneToEight();
        testPromisesNineToSeventeen();
        System.out.println(wrong == 0 ? TESTED.size() + " sentences hold" : wrong + " answers are not as due");
        if (wrong != 0) {
            System.exit(1);
        }
    }
}
