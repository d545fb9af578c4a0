import java.util.NoSuchElementException;

/** Promise by promise: ordinary inputs, the edges that the document names, and wrong inputs. */
public final class ParcelChutesPromises {
    private static final Class<?> NO_CHUTE = IndexOutOfBoundsException.class;
    private static final Class<?> BAD = IllegalArgumentException.class;
    private static final Class<?> STATE = IllegalStateException.class;
    private static final Class<?> NONE = NoSuchElementException.class;
    private static final int[] NOT_CHUTES = {-1, 8, 12, Integer.MIN_VALUE, Integer.MAX_VALUE};
    private static final int[] NOT_WEIGHTS = {-1, 800001, Integer.MIN_VALUE, Integer.MAX_VALUE};
    private static final int[] NOT_GIRTHS = {-1, 16001, 800000, Integer.MIN_VALUE, Integer.MAX_VALUE};

    private static int wrong = 0;
    private static String promise = "";

    private interface Call {
        long answer();
    }

    private static void due(String call, long got, long want) {
        if (got != want) {
            wrong++;
            System.out.println(promise + ": " + call + " answered " + got + ", due is " + want);
        }
    }

    /**
     * The call must throw just this class. That it changes nothing is tested by ParcelChutesSentences on new objects:
     * a reading of all ahead of and behind each refusal would take one object past its 512th call.
     */
    private static void dueThrow(String call, Class<?> want, Call made) {
        Class<?> got = null;
        try {
            made.answer();
        } catch (RuntimeException e) {
            got = e.getClass();
        }
        if (got != want) {
            wrong++;
            System.out.println(promise + ": " + call + " threw " + got + ", due is " + want);
        }
    }

    /** What a chute holds, as it lies: weight, girth, weight, girth, .. */
    private static void dueLying(ParcelChutes x, int chute, int... want) {
        due("chute(" + chute + ", 5)", x.chute(chute, 5), want.length / 2);
        for (int k = 0; k < want.length / 2 && k < x.chute(chute, 5); k++) {
            due("weight(" + chute + ", " + k + ")", x.weight(chute, k), want[2 * k]);
            due("girth(" + chute + ", " + k + ")", x.girth(chute, k), want[2 * k + 1]);
        }
    }

    private static void dueAside(ParcelChutes x, int count, int weight, int girth) {
        due("gauge(5)", x.gauge(5), count);
        due("gauge(6)", x.gauge(6), weight);
        due("gauge(7)", x.gauge(7), girth);
    }

    /** A sorter whose chute takes every parcel: LENIENT with no limits. The chutes ahead of it are STRICT, unset. */
    private static ParcelChutes withLenient(int... chutes) {
        ParcelChutes x = new ParcelChutes();
        for (int chute : chutes) {
            x.sort(chute, 1);
        }
        return x;
    }

    private static void sendAll(ParcelChutes x, int... parcels) {
        for (int k = 0; k + 1 < parcels.length; k += 2) {
            x.send(parcels[k], parcels[k + 1]);
        }
    }

    /** A sorter whose chute has this sort and these limits; all others fit nothing, being STRICT and unset. */
    private static ParcelChutes with(int chute, int sort, int low, int high, int wide) {
        ParcelChutes x = new ParcelChutes();
        x.sort(chute, sort);
        x.limits(chute, low, high, wide);
        return x;
    }

    private static void promise1() {
        promise = "promise 1";
        ParcelChutes x = new ParcelChutes();
        for (int k = 0; k < 8; k++) {
            for (int what = 0; what < 8; what++) {
                due("chute(" + k + ", " + what + ")", x.chute(k, what), 0);
            }
        }
        for (int what = 0; what < 8; what++) {
            due("gauge(" + what + ")", x.gauge(what), 0);
        }
        due("fits(1, 1)", x.fits(1, 1), 0);
        sendAll(x, 5, 5);
        due("gauge(4) of another object", new ParcelChutes().gauge(4), 0);
    }

    private static void promise2() {
        promise = "promise 2";
        ParcelChutes x = new ParcelChutes();
        for (int sort = 1; sort <= 4; sort++) {
            due("sort(7, " + sort + ")", x.sort(7, sort), sort - 1);
            due("chute(7, 0)", x.chute(7, 0), sort);
        }
        due("sort(7, 0)", x.sort(7, 0), 4);
        due("chute(6, 0)", x.chute(6, 0), 0);
        for (int chute : NOT_CHUTES) {
            dueThrow("sort(no chute, 9)", NO_CHUTE, () -> x.sort(chute, 9));
        }
        x.sort(0, 1);
        x.send(3, 3);
        for (int sort : new int[] {-1, 5, Integer.MIN_VALUE, Integer.MAX_VALUE}) {
            dueThrow("sort(0, " + sort + ")", BAD, () -> x.sort(0, sort));
            dueThrow("sort(1, " + sort + ")", BAD, () -> x.sort(1, sort));
        }
        dueThrow("sort(0, 0) holding", STATE, () -> x.sort(0, 0));
        dueThrow("sort(0, 1) holding", STATE, () -> x.sort(0, 1));
        x.take(0, 3);
        due("sort(0, 4) emptied", x.sort(0, 4), 1);
    }

    private static void promise3() {
        promise = "promise 3";
        ParcelChutes x = new ParcelChutes();
        due("limits(7, 1, 800000, 16000)", x.limits(7, 1, 800000, 16000), 3);
        due("chute(7, 1)", x.chute(7, 1), 1);
        due("chute(7, 2)", x.chute(7, 2), 800000);
        due("chute(7, 3)", x.chute(7, 3), 16000);
        due("limits(7, 800000, 800000, 0)", x.limits(7, 800000, 800000, 0), 2);
        due("limits(7, 9, 0, 0)", x.limits(7, 9, 0, 0), 1);
        due("chute(7, 2) unset again", x.chute(7, 2), 0);
        due("limits(7, 0, 9, 0)", x.limits(7, 0, 9, 0), 1);
        due("limits(7, 0, 0, 9)", x.limits(7, 0, 0, 9), 1);
        due("limits(7, 0, 9, 9)", x.limits(7, 0, 9, 9), 2);
        due("limits(7, 0, 0, 0)", x.limits(7, 0, 0, 0), 0);
        x.limits(3, 4, 6, 5);
        for (int chute : NOT_CHUTES) {
            dueThrow("limits(no chute, -1, 0, 0)", NO_CHUTE, () -> x.limits(chute, -1, 0, 0));
            dueThrow("limits(no chute, 9, 8, 0)", NO_CHUTE, () -> x.limits(chute, 9, 8, 0));
        }
        for (int number : NOT_WEIGHTS) {
            dueThrow("limits(3, " + number + ", 1, 1)", BAD, () -> x.limits(3, number, 1, 1));
            dueThrow("limits(3, 2, " + number + ", 1)", BAD, () -> x.limits(3, 2, number, 1));
        }
        for (int number : NOT_GIRTHS) {
            dueThrow("limits(3, 1, 2, " + number + ")", BAD, () -> x.limits(3, 1, 2, number));
            dueThrow("limits(3, 9, 8, " + number + ")", BAD, () -> x.limits(3, 9, 8, number));
        }
        dueThrow("limits(3, 9, 8, 7)", STATE, () -> x.limits(3, 9, 8, 7));
        dueThrow("limits(3, 800000, 1, 0)", STATE, () -> x.limits(3, 800000, 1, 0));
        ParcelChutes y = withLenient(2);
        sendAll(y, 5, 5);
        due("limits(2, 9, 9, 1) while it holds", y.limits(2, 9, 9, 1), 3);
        dueLying(y, 2, 5, 5);
    }

    private static void promise4() {
        promise = "promise 4";
        ParcelChutes x = withLenient(0, 7);
        due("shut(0, false)", x.shut(0, false) ? 1 : 0, 0);
        due("shut(0, true)", x.shut(0, true) ? 1 : 0, 0);
        due("chute(0, 4)", x.chute(0, 4), 1);
        due("shut(0, true) again", x.shut(0, true) ? 1 : 0, 1);
        due("chute(7, 4)", x.chute(7, 4), 0);
        due("send past the shut one", x.send(1, 1), 7);
        due("shut(0, false) again", x.shut(0, false) ? 1 : 0, 1);
        due("chute(0, 4) open", x.chute(0, 4), 0);
        due("send to the open one", x.send(1, 1), 0);
        for (int chute : NOT_CHUTES) {
            dueThrow("shut(no chute, true)", NO_CHUTE, () -> x.shut(chute, true) ? 1 : 0);
        }
    }

    private static void promise5() {
        promise = "promise 5";
        ParcelChutes x = withLenient(3, 5);
        for (int k = 0; k < 12; k++) {
            due("send(" + (20 - k) + ", 1)", x.send(20 - k, 1), 3);
        }
        due("send(4, 2) when 3 is full", x.send(4, 2), 5);
        x.shut(5, true);
        due("send(0, 7) when no chute takes it", x.send(0, 7), -1);
        dueAside(x, 1, 0, 7);
        due("send(800000, 0)", x.send(800000, 0), -1);
        dueAside(x, 2, 800000, 0);
        x.take(3, 9);
        due("send(800000, 16000) to the room made", x.send(800000, 16000), 3);
        due("weight(3, 11)", x.weight(3, 11), 800000);
        due("gauge(4)", x.gauge(4), 16);
        for (int number : NOT_WEIGHTS) {
            dueThrow("send(" + number + ", 1)", BAD, () -> x.send(number, 1));
        }
        for (int number : NOT_GIRTHS) {
            dueThrow("send(1, " + number + ")", BAD, () -> x.send(1, number));
        }
        ParcelChutes y = withLenient(0);
        sendAll(y, 5, 1, 0, 2, 3, 3, 5, 4, 0, 5, 9, 6, 3, 7);
        dueLying(y, 0, 3, 3, 3, 7, 5, 1, 5, 4, 9, 6, 0, 2, 0, 5);
    }

    private static void dueFit(ParcelChutes x, int chute, int weight, int girth, boolean want) {
        due("fits(" + weight + ", " + girth + ")", x.fits(weight, girth), want ? 1 << chute : 0);
        due("send(" + weight + ", " + girth + ")", x.send(weight, girth), want ? chute : -1);
        if (want) {
            x.take(chute, weight);
        }
    }

    private static void strictFits() {
        ParcelChutes x = with(0, 0, 10, 20, 8);
        dueFit(x, 0, 10, 8, true);
        dueFit(x, 0, 19, 1, true);
        dueFit(x, 0, 9, 8, false);
        dueFit(x, 0, 20, 8, false);
        dueFit(x, 0, 10, 9, false);
        dueFit(x, 0, 0, 8, false);
        dueFit(x, 0, 10, 0, false);
        dueFit(with(0, 0, 0, 20, 8), 0, 10, 8, false);
        dueFit(with(0, 0, 10, 0, 8), 0, 10, 8, false);
        dueFit(with(0, 0, 10, 20, 0), 0, 10, 8, false);
        dueFit(new ParcelChutes(), 0, 0, 0, false);
    }

    private static void lenientFits() {
        ParcelChutes x = with(7, 1, 10, 20, 8);
        dueFit(x, 7, 10, 8, true);
        dueFit(x, 7, 19, 1, true);
        dueFit(x, 7, 9, 8, false);
        dueFit(x, 7, 20, 8, false);
        dueFit(x, 7, 10, 9, false);
        dueFit(x, 7, 0, 8, true);
        dueFit(x, 7, 0, 9, false);
        dueFit(x, 7, 10, 0, true);
        dueFit(x, 7, 9, 0, false);
        dueFit(x, 7, 0, 0, true);
        dueFit(with(7, 1, 0, 20, 8), 7, 1, 8, true);
        dueFit(with(7, 1, 10, 0, 8), 7, 800000, 8, true);
        dueFit(with(7, 1, 10, 20, 0), 7, 10, 16000, true);
        dueFit(with(7, 1, 0, 0, 0), 7, 0, 0, true);
    }

    private static void exactFits() {
        ParcelChutes x = with(2, 2, 10, 20, 8);
        dueFit(x, 2, 10, 1, true);
        dueFit(x, 2, 1, 8, true);
        dueFit(x, 2, 10, 8, true);
        dueFit(x, 2, 10, 0, true);
        dueFit(x, 2, 0, 8, true);
        dueFit(x, 2, 20, 9, false);
        dueFit(x, 2, 8, 10, false);
        dueFit(x, 2, 0, 0, false);
        dueFit(with(2, 2, 0, 0, 0), 2, 0, 0, false);
        dueFit(with(2, 2, 0, 10, 8), 2, 0, 1, false);
    }

    private static void otherFits() {
        ParcelChutes x = with(3, 3, 10, 20, 8);
        dueFit(x, 3, 11, 9, true);
        dueFit(x, 3, 9, 7, true);
        dueFit(x, 3, 10, 9, false);
        dueFit(x, 3, 20, 9, false);
        dueFit(x, 3, 15, 8, false);
        dueFit(x, 3, 0, 9, true);
        dueFit(x, 3, 0, 8, false);
        dueFit(x, 3, 15, 0, true);
        dueFit(x, 3, 10, 0, false);
        dueFit(x, 3, 0, 0, true);
        dueFit(with(3, 3, 0, 0, 0), 3, 0, 0, true);
        dueFit(with(3, 3, 0, 0, 0), 3, 5, 5, true);
    }

    private static void beyondFits() {
        ParcelChutes x = with(4, 4, 10, 20, 8);
        dueFit(x, 4, 21, 1, true);
        dueFit(x, 4, 9, 1, true);
        dueFit(x, 4, 15, 8, true);
        dueFit(x, 4, 15, 9, true);
        dueFit(x, 4, 20, 7, false);
        dueFit(x, 4, 10, 7, false);
        dueFit(x, 4, 0, 7, false);
        dueFit(x, 4, 0, 8, true);
        dueFit(x, 4, 21, 0, true);
        dueFit(x, 4, 20, 0, false);
        dueFit(x, 4, 0, 0, false);
        dueFit(with(4, 4, 0, 20, 0), 4, 1, 9, false);
        dueFit(with(4, 4, 10, 0, 0), 4, 800000, 9, false);
        dueFit(with(4, 4, 0, 0, 0), 4, 5, 5, false);
    }

    private static void promise6() {
        promise = "promise 6";
        strictFits();
        lenientFits();
        exactFits();
        otherFits();
        beyondFits();
        ParcelChutes x = withLenient(0, 1, 7);
        due("fits(0, 0)", x.fits(0, 0), 131);
        x.shut(7, true);
        for (int k = 0; k < 12; k++) {
            x.send(5, 5);
        }
        due("fits(5, 5), one full, one shut", x.fits(5, 5), 131);
        due("chute(1, 5), none came", x.chute(1, 5), 0);
        due("gauge(4), none came", x.gauge(4), 12);
        for (int number : NOT_WEIGHTS) {
            dueThrow("fits(" + number + ", 1)", BAD, () -> x.fits(number, 1));
        }
        for (int number : NOT_GIRTHS) {
            dueThrow("fits(1, " + number + ")", BAD, () -> x.fits(1, number));
        }
    }

    private static void promise7() {
        promise = "promise 7";
        ParcelChutes x = new ParcelChutes();
        x.limits(7, 10, 20, 5);
        int[] limits = {10, 20, 5};
        for (int what = 0; what < 3; what++) {
            int at = what;
            due("signs under limit " + what, x.signs(7, what, limits[what] - 1), 35);
            due("signs at limit " + what, x.signs(7, what, limits[what]), 26);
            due("signs over limit " + what, x.signs(7, what, limits[what] + 1), 44);
            due("signs of unknown, limit " + what, x.signs(7, what, 0), 32);
            due("signs of known, unset limit " + what, x.signs(0, what, 1), 32);
            due("signs of unknown, unset limit " + what, x.signs(0, what, 0), 32);
            for (int number : what == 2 ? NOT_GIRTHS : NOT_WEIGHTS) {
                dueThrow("signs(7, " + what + ", " + number + ")", BAD, () -> x.signs(7, at, number));
            }
            for (int chute : NOT_CHUTES) {
                dueThrow("signs(no chute, " + what + ", -1)", NO_CHUTE, () -> x.signs(chute, at, -1));
            }
        }
        due("signs(7, 0, 800000)", x.signs(7, 0, 800000), 44);
        due("signs(7, 1, 800000)", x.signs(7, 1, 800000), 44);
        due("signs(7, 2, 16000)", x.signs(7, 2, 16000), 44);
        for (int what : new int[] {-1, 3, Integer.MIN_VALUE, Integer.MAX_VALUE}) {
            dueThrow("signs(7, " + what + ", 5)", BAD, () -> x.signs(7, what, 5));
            dueThrow("signs(8, " + what + ", 5)", NO_CHUTE, () -> x.signs(8, what, 5));
        }
    }

    private static void promise8() {
        promise = "promise 8";
        ParcelChutes x = withLenient(7);
        sendAll(x, 5, 0, 0, 0, 0, 3, 6, 0, 7, 7);
        x.limits(7, 11, 12, 13);
        x.shut(7, true);
        int[] want = {1, 11, 12, 13, 1, 5, 2, 3};
        for (int what = 0; what < 8; what++) {
            int at = what;
            due("chute(7, " + what + ")", x.chute(7, what), want[what]);
            for (int chute : NOT_CHUTES) {
                dueThrow("chute(no chute, " + what + ")", NO_CHUTE, () -> x.chute(chute, at));
            }
        }
        x.take(7, 0);
        due("chute(7, 6) one less", x.chute(7, 6), 1);
        due("chute(7, 7) one less", x.chute(7, 7), 2);
        for (int what : new int[] {-1, 8, Integer.MIN_VALUE, Integer.MAX_VALUE}) {
            dueThrow("chute(7, " + what + ")", BAD, () -> x.chute(7, what));
            dueThrow("chute(8, " + what + ")", NO_CHUTE, () -> x.chute(8, what));
        }
    }

    private static void promises9And10() {
        promise = "promises 9, 10";
        ParcelChutes x = withLenient(7);
        sendAll(x, 800000, 16000, 1, 0, 0, 1, 0, 0);
        dueLying(x, 7, 1, 0, 800000, 16000, 0, 1, 0, 0);
        for (int place : new int[] {-1, 4, 11, 12, Integer.MIN_VALUE, Integer.MAX_VALUE}) {
            dueThrow("weight(7, " + place + ")", NONE, () -> x.weight(7, place));
            dueThrow("girth(7, " + place + ")", NONE, () -> x.girth(7, place));
            dueThrow("weight(8, " + place + ")", NO_CHUTE, () -> x.weight(8, place));
            dueThrow("girth(8, " + place + ")", NO_CHUTE, () -> x.girth(8, place));
        }
        dueThrow("weight(0, 0)", NONE, () -> x.weight(0, 0));
        dueThrow("girth(0, 0)", NONE, () -> x.girth(0, 0));
        for (int chute : NOT_CHUTES) {
            dueThrow("weight(no chute, 0)", NO_CHUTE, () -> x.weight(chute, 0));
            dueThrow("girth(no chute, 0)", NO_CHUTE, () -> x.girth(chute, 0));
        }
        while (x.chute(7, 5) < 12) {
            x.send(2, 2);
        }
        due("weight(7, 11) full", x.weight(7, 11), 0);
        dueThrow("weight(7, 12) full", NONE, () -> x.weight(7, 12));
        dueThrow("girth(7, 12) full", NONE, () -> x.girth(7, 12));
    }

    private static void promise11() {
        promise = "promise 11";
        ParcelChutes x = withLenient(7);
        due("below(7, 5) of none", x.below(7, 5), 0);
        sendAll(x, 5, 1, 0, 1, 3, 1, 5, 1, 800000, 1, 0, 1);
        int[][] want = {{0, 0}, {1, 0}, {3, 0}, {4, 1}, {5, 1}, {6, 3}, {799999, 3}, {800000, 3}};
        for (int[] row : want) {
            due("below(7, " + row[0] + ")", x.below(7, row[0]), row[1]);
        }
        x.take(7, 5);
        x.take(7, 5);
        x.take(7, 3);
        due("below(7, 6), the lighter ones taken out", x.below(7, 6), 0);
        while (x.chute(7, 5) < 12) {
            x.send(4, 1);
        }
        due("below(7, 800000) of a full one", x.below(7, 800000), 9);
        for (int chute : NOT_CHUTES) {
            dueThrow("below(no chute, -1)", NO_CHUTE, () -> x.below(chute, -1));
        }
        for (int number : NOT_WEIGHTS) {
            dueThrow("below(7, " + number + ")", BAD, () -> x.below(7, number));
        }
    }

    private static void promise12() {
        promise = "promise 12";
        ParcelChutes x = withLenient(7);
        sendAll(x, 5, 1, 0, 2, 3, 3, 5, 4, 0, 0, 9, 6);
        due("take(7, 5)", x.take(7, 5), 1);
        dueLying(x, 7, 3, 3, 5, 4, 9, 6, 0, 2, 0, 0);
        due("take(7, 5) again", x.take(7, 5), 4);
        due("take(7, 0)", x.take(7, 0), 2);
        due("take(7, 0) again", x.take(7, 0), 0);
        dueThrow("take(7, 0) once more", NONE, () -> x.take(7, 0));
        dueThrow("take(7, 5) once more", NONE, () -> x.take(7, 5));
        dueThrow("take(0, 0) of none", NONE, () -> x.take(0, 0));
        dueLying(x, 7, 3, 3, 9, 6);
        dueAside(x, 0, 0, 0);
        for (int chute : NOT_CHUTES) {
            dueThrow("take(no chute, -1)", NO_CHUTE, () -> x.take(chute, -1));
        }
        for (int number : NOT_WEIGHTS) {
            dueThrow("take(7, " + number + ")", BAD, () -> x.take(7, number));
            dueThrow("take(0, " + number + ") of none", BAD, () -> x.take(0, number));
        }
        x.shut(7, true);
        due("take(7, 9) of a shut one", x.take(7, 9), 6);
        due("take(7, 3) of a shut one", x.take(7, 3), 3);
        while (x.send(1, 5) == -1) {
            x.shut(7, false);
        }
        while (x.chute(7, 5) < 12) {
            x.send(2, 6);
        }
        dueThrow("take(7, 3) of a full one", NONE, () -> x.take(7, 3));
        dueThrow("take(7, 0) of a full one", NONE, () -> x.take(7, 0));
        due("take(7, 1) of a full one", x.take(7, 1), 5);
        due("chute(7, 5)", x.chute(7, 5), 11);
    }

    private static void promise13() {
        promise = "promise 13";
        ParcelChutes x = withLenient(0, 1);
        x.limits(1, 4, 10, 0);
        sendAll(x, 5, 1, 0, 2, 3, 3, 5, 4, 10, 5, 0, 6);
        x.shut(0, true);
        sendAll(x, 5, 7, 0, 8, 9, 9);
        x.shut(1, true);
        due("pour(0, 1) between shut ones", x.pour(0, 1), 4);
        dueLying(x, 0, 3, 3, 10, 5);
        dueLying(x, 1, 5, 7, 5, 1, 5, 4, 9, 9, 0, 8, 0, 2, 0, 6);
        due("pour(0, 1) again", x.pour(0, 1), 0);
        due("pour(2, 1) of none", x.pour(2, 1), 0);
        dueAside(x, 0, 0, 0);
        due("gauge(4)", x.gauge(4), 9);
        for (int chute : NOT_CHUTES) {
            dueThrow("pour(no chute, 1)", NO_CHUTE, () -> x.pour(chute, 1));
            dueThrow("pour(1, no chute)", NO_CHUTE, () -> x.pour(1, chute));
            dueThrow("pour(no chute, itself)", NO_CHUTE, () -> x.pour(chute, chute));
        }
        for (int k = 0; k < 8; k++) {
            int chute = k;
            dueThrow("pour(" + k + ", " + k + ")", BAD, () -> x.pour(chute, chute));
        }
        pourUntilFull();
    }

    private static void pourUntilFull() {
        ParcelChutes x = withLenient(6, 7);
        x.shut(6, true);
        for (int k = 1; k <= 10; k++) {
            x.send(100 + k, k);
        }
        x.shut(6, false);
        sendAll(x, 0, 20, 9, 21, 7, 22, 8, 23);
        due("pour(6, 7) into room for two", x.pour(6, 7), 2);
        dueLying(x, 6, 9, 21, 0, 20);
        due("chute(7, 5)", x.chute(7, 5), 12);
        due("weight(7, 0)", x.weight(7, 0), 7);
        due("weight(7, 1)", x.weight(7, 1), 8);
        due("pour(6, 7) into a full one", x.pour(6, 7), 0);
        due("pour(7, 6)", x.pour(7, 6), 10);
        due("chute(6, 5)", x.chute(6, 5), 12);
        dueLying(x, 7, 109, 9, 110, 10);
    }

    private static void promise14() {
        promise = "promise 14";
        ParcelChutes x = withLenient(7);
        sendAll(x, 5, 1, 0, 2, 3, 3, 12, 4, 0, 9, 10, 5, 4, 0);
        due("sweep(7) of what fits", x.sweep(7), 0);
        dueAside(x, 0, 0, 0);
        x.limits(7, 4, 10, 8);
        x.shut(7, true);
        due("sweep(7)", x.sweep(7), 4);
        dueLying(x, 7, 4, 0, 5, 1, 0, 2);
        dueAside(x, 4, 0, 9);
        due("sweep(7) again", x.sweep(7), 0);
        due("sweep(0) of none", x.sweep(0), 0);
        x.limits(7, 5, 5, 8);
        due("sweep(7) of two known", x.sweep(7), 2);
        dueAside(x, 6, 5, 1);
        dueLying(x, 7, 0, 2);
        due("gauge(4)", x.gauge(4), 7);
        for (int chute : NOT_CHUTES) {
            dueThrow("sweep(no chute)", NO_CHUTE, () -> x.sweep(chute));
        }
        ParcelChutes y = withLenient(0);
        for (int k = 1; k <= 12; k++) {
            y.send(k, k);
        }
        y.limits(0, 800000, 0, 0);
        due("sweep(0) of twelve", y.sweep(0), 12);
        dueLying(y, 0);
        dueAside(y, 12, 12, 12);
        due("sort(0, 2) swept", y.sort(0, 2), 1);
    }

    private static void promise15() {
        promise = "promise 15";
        ParcelChutes x = withLenient(0, 7);
        due("heavier(0, 7), both of none", x.heavier(0, 7), 2);
        sendAll(x, 0, 9);
        due("heavier(0, 0), unknown alone", x.heavier(0, 0), 2);
        sendAll(x, 5, 9, 3, 9);
        due("heavier(0, 7), one of none", x.heavier(0, 7), 2);
        due("heavier(7, 0), one of none", x.heavier(7, 0), 2);
        due("heavier(0, 0)", x.heavier(0, 0), 0);
        x.shut(0, true);
        sendAll(x, 0, 1);
        due("heavier(7, 0), unknown alone", x.heavier(7, 0), 2);
        sendAll(x, 4, 1);
        due("heavier(0, 7)", x.heavier(0, 7), 1);
        due("heavier(7, 0)", x.heavier(7, 0), -1);
        sendAll(x, 5, 1);
        due("heavier(0, 7), =", x.heavier(0, 7), 0);
        sendAll(x, 6, 1);
        due("heavier(0, 7), <", x.heavier(0, 7), -1);
        for (int chute : NOT_CHUTES) {
            dueThrow("heavier(no chute, 0)", NO_CHUTE, () -> x.heavier(chute, 0));
            dueThrow("heavier(0, no chute)", NO_CHUTE, () -> x.heavier(0, chute));
        }
    }

    private static void promise16() {
        promise = "promise 16";
        ParcelChutes x = withLenient(0, 7);
        due("alike(0, 7) of none", x.alike(0, 7), 0);
        due("alike(0, 0) of none", x.alike(0, 0), 0);
        sendAll(x, 1, 1, 2, 2, 3, 3, 4, 0, 5, 5);
        due("alike(0, 0) up to an unknown girth", x.alike(0, 0), 3);
        x.shut(0, true);
        sendAll(x, 1, 1, 2, 2);
        due("alike(0, 7), one ends", x.alike(0, 7), 2);
        due("alike(7, 0), one ends", x.alike(7, 0), 2);
        due("alike(7, 7)", x.alike(7, 7), 2);
        sendAll(x, 3, 4);
        due("alike(0, 7), girths differ", x.alike(0, 7), 2);
        x.take(7, 3);
        sendAll(x, 4, 3);
        due("alike(0, 7), weights differ", x.alike(0, 7), 2);
        sendAll(x, 3, 3);
        due("alike(0, 7), 4 of girths 3 and unknown", x.alike(0, 7), 3);
        due("alike(7, 0), 4 of girths 3 and unknown", x.alike(7, 0), 3);
        sendAll(x, 0, 6);
        due("alike(7, 7) up to an unknown weight", x.alike(7, 7), 4);
        for (int chute : NOT_CHUTES) {
            dueThrow("alike(no chute, 0)", NO_CHUTE, () -> x.alike(chute, 0));
            dueThrow("alike(0, no chute)", NO_CHUTE, () -> x.alike(0, chute));
        }
        ParcelChutes y = withLenient(1);
        for (int k = 0; k < 12; k++) {
            y.send(7, 7);
        }
        due("alike(1, 1) of twelve", y.alike(1, 1), 12);
        ParcelChutes z = withLenient(0, 7);
        sendAll(z, 1, 1, 2, 2);
        z.shut(0, true);
        sendAll(z, 1, 3, 2, 2);
        due("alike(0, 7), the first girths differ", z.alike(0, 7), 0);
        z.take(7, 1);
        due("alike(0, 7), the first weights differ", z.alike(0, 7), 0);
    }

    private static void dueGauges(ParcelChutes x, int lightest, int heaviest, int widest, int streak, int came) {
        int[] want = {lightest, heaviest, widest, streak, came};
        for (int what = 0; what < want.length; what++) {
            due("gauge(" + what + ") after " + came, x.gauge(what), want[what]);
        }
    }

    private static void promise17() {
        promise = "promise 17";
        ParcelChutes x = new ParcelChutes();
        x.send(0, 0);
        dueGauges(x, 0, 0, 0, 1, 1);
        dueAside(x, 1, 0, 0);
        x.send(50, 0);
        dueGauges(x, 50, 50, 0, 2, 2);
        x.send(50, 5);
        dueGauges(x, 50, 50, 5, 3, 3);
        x.send(40, 4);
        dueGauges(x, 40, 50, 5, 1, 4);
        x.send(0, 6);
        dueGauges(x, 40, 50, 6, 2, 5);
        x.send(30, 0);
        dueGauges(x, 30, 50, 6, 3, 6);
        dueAside(x, 6, 30, 0);
        x.sort(0, 1);
        x.send(800000, 16000);
        dueGauges(x, 30, 800000, 16000, 4, 7);
        x.send(1, 1);
        dueGauges(x, 1, 800000, 16000, 1, 8);
        x.take(0, 1);
        x.take(0, 800000);
        x.fits(2, 2);
        dueGauges(x, 1, 800000, 16000, 1, 8);
        dueAside(x, 6, 30, 0);
        for (int what : new int[] {-1, 8, Integer.MIN_VALUE, Integer.MAX_VALUE}) {
            dueThrow("gauge(" + what + ")", BAD, () -> x.gauge(what));
        }
        dueThrow("send(-1, 5)", BAD, () -> x.send(-1, 5));
        x.send(1, 1);
        dueGauges(x, 1, 800000, 16000, 2, 9);
        ParcelChutes y = new ParcelChutes();
        sendAll(y, 7, 8, 6, 9);
        dueGauges(y, 6, 7, 9, 1, 2);
        sendAll(y, 12, 1);
        dueGauges(y, 6, 12, 9, 2, 3);
    }

    public static void main(String[] args) {
        promise1();
        promise2();
        promise3();
        promise4();
        promise5();
        promise6();
        promise7();
        promise8();
        promises9And10();
        promise11();
        promise12();
        promise13();
        promise14();
        promise15();
        promise16();
        promise17();
        System.out.println(wrong == 0 ? "all promises hold" : wrong + " answers are not as due");
        if (wrong != 0) {
            System.exit(1);
        }
    }
}
