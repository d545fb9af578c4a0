import java.util.ArrayList;
import java.util.Comparator;
import java.util.List;
import java.util.NoSuchElementException;
import java.util.Random;

/** Runs of 512 calls, drawn from fixed seeds, against a second, slower reading of the document. */
public final class ParcelChutesModel {
    private static final int RUNS = 2100;
    private static final int CALLS = 512;
    private static final int PLACES = 13;
    private static final int READINGS = 8 * (3 * PLACES + 1);
    private static final int SHOWN = 20;

    /** A parcel whose unknown numbers are null, so that the model shares no code of the class's kind. */
    private record Parcel(Integer weight, Integer girth, int arrival) { }

    private static final class ModelChute {
        int sort;
        Integer low;
        Integer high;
        Integer wide;
        boolean shut;
        List<Parcel> parcels = new ArrayList<>();
    }

    private static final class Model {
        final ModelChute[] chutes = new ModelChute[8];
        final List<Parcel> came = new ArrayList<>();
        final List<Parcel> aside = new ArrayList<>();
        int arrivals;

        Model() {
            for (int k = 0; k < 8; k++) {
                chutes[k] = new ModelChute();
            }
        }

        static Integer told(int number, int most) {
            if (number < 0 || number > most) {
                throw new IllegalArgumentException();
            }
            return number == 0 ? null : Integer.valueOf(number);
        }

        static boolean sign(Integer a, String sign, Integer b) {
            if (a == null || b == null) {
                return sign.equals("#");
            }
            int order = a.compareTo(b);
            return switch (sign) {
                case "<" -> order < 0;
                case "<=" -> order <= 0;
                case ">" -> order > 0;
                case ">=" -> order >= 0;
                case "=" -> order == 0;
                default -> order != 0;
            };
        }

        static boolean fit(ModelChute c, Integer w, Integer g) {
            return switch (c.sort) {
                case 0 -> sign(c.low, "<=", w) && sign(w, "<", c.high) && sign(g, "<=", c.wide);
                case 1 -> !(sign(w, "<", c.low) || sign(w, ">=", c.high) || sign(g, ">", c.wide));
                case 2 -> sign(w, "=", c.low) || sign(g, "=", c.wide);
                case 3 -> sign(w, "#", c.low) && sign(w, "#", c.high) && sign(g, "#", c.wide);
                default -> sign(w, ">", c.high) || sign(w, "<", c.low) || sign(g, ">=", c.wide);
            };
        }

        ModelChute at(int chute) {
            if (chute < 0 || chute > 7) {
                throw new IndexOutOfBoundsException();
            }
            return chutes[chute];
        }

        void enter(ModelChute c, Integer w, Integer g) {
            c.parcels.add(new Parcel(w, g, arrivals++));
            c.parcels.sort(Comparator.comparingInt((Parcel p) -> p.weight == null ? Integer.MAX_VALUE : p.weight)
                    .thenComparingInt(p -> p.arrival));
        }

        static int shown(Integer number) {
            return number == null ? 0 : number;
        }

        static Parcel place(ModelChute c, int place) {
            if (place < 0 || place >= c.parcels.size()) {
                throw new NoSuchElementException();
            }
            return c.parcels.get(place);
        }

        int sort(int chute, int sort) {
            ModelChute c = at(chute);
            if (sort < 0 || sort > 4) {
                throw new IllegalArgumentException();
            }
            if (!c.parcels.isEmpty()) {
                throw new IllegalStateException();
            }
            int had = c.sort;
            c.sort = sort;
            return had;
        }

        int limits(int chute, int low, int high, int wide) {
            ModelChute c = at(chute);
            Integer l = told(low, 800000);
            Integer h = told(high, 800000);
            Integer w = told(wide, 16000);
            if (sign(h, "<", l)) {
                throw new IllegalStateException();
            }
            c.low = l;
            c.high = h;
            c.wide = w;
            return (l == null ? 0 : 1) + (h == null ? 0 : 1) + (w == null ? 0 : 1);
        }

        int shut(int chute, boolean shut) {
            ModelChute c = at(chute);
            int was = c.shut ? 1 : 0;
            c.shut = shut;
            return was;
        }

        int send(int weight, int girth) {
            Integer w = told(weight, 800000);
            Integer g = told(girth, 16000);
            came.add(new Parcel(w, g, came.size()));
            for (int k = 0; k < 8; k++) {
                if (!chutes[k].shut && chutes[k].parcels.size() < 12 && fit(chutes[k], w, g)) {
                    enter(chutes[k], w, g);
                    return k;
                }
            }
            aside.add(new Parcel(w, g, 0));
            return -1;
        }

        int fits(int weight, int girth) {
            Integer w = told(weight, 800000);
            Integer g = told(girth, 16000);
            int bits = 0;
            for (int k = 0; k < 8; k++) {
                bits += fit(chutes[k], w, g) ? 1 << k : 0;
            }
            return bits;
        }

        int signs(int chute, int what, int number) {
            ModelChute c = at(chute);
            if (what < 0 || what > 2) {
                throw new IllegalArgumentException();
            }
            Integer n = told(number, what == 2 ? 16000 : 800000);
            Integer limit = what == 0 ? c.low : what == 1 ? c.high : c.wide;
            String[] signs = {"<", "<=", ">", ">=", "=", "#"};
            int bits = 0;
            for (int k = 0; k < 6; k++) {
                bits += sign(n, signs[k], limit) ? 1 << k : 0;
            }
            return bits;
        }

        int chute(int chute, int what) {
            ModelChute c = at(chute);
            return switch (what) {
                case 0 -> c.sort;
                case 1 -> shown(c.low);
                case 2 -> shown(c.high);
                case 3 -> shown(c.wide);
                case 4 -> c.shut ? 1 : 0;
                case 5 -> c.parcels.size();
                case 6 -> (int) c.parcels.stream().filter(p -> p.weight == null).count();
                case 7 -> (int) c.parcels.stream().filter(p -> p.girth == null).count();
                default -> throw new IllegalArgumentException();
            };
        }

        int weight(int chute, int place) {
            return shown(place(at(chute), place).weight);
        }

        int girth(int chute, int place) {
            return shown(place(at(chute), place).girth);
        }

        int below(int chute, int weight) {
            ModelChute c = at(chute);
            Integer w = told(weight, 800000);
            return (int) c.parcels.stream().filter(p -> sign(p.weight, "<", w)).count();
        }

        int take(int chute, int weight) {
            ModelChute c = at(chute);
            Integer w = told(weight, 800000);
            for (Parcel p : c.parcels) {
                if (w == null ? p.weight == null : sign(p.weight, "=", w)) {
                    c.parcels.remove(p);
                    return shown(p.girth);
                }
            }
            throw new NoSuchElementException();
        }

        int pour(int from, int to) {
            ModelChute source = at(from);
            ModelChute target = at(to);
            if (from == to) {
                throw new IllegalArgumentException();
            }
            int went = 0;
            for (Parcel p : new ArrayList<>(source.parcels)) {
                if (target.parcels.size() < 12 && fit(target, p.weight, p.girth)) {
                    source.parcels.remove(p);
                    enter(target, p.weight, p.girth);
                    went++;
                }
            }
            return went;
        }

        int sweep(int chute) {
            ModelChute c = at(chute);
            int went = 0;
            for (Parcel p : new ArrayList<>(c.parcels)) {
                if (!fit(c, p.weight, p.girth)) {
                    c.parcels.remove(p);
                    aside.add(p);
                    went++;
                }
            }
            return went;
        }

        static Integer heaviest(List<Parcel> parcels) {
            return parcels.stream().map(p -> shown(p.weight)).max(Integer::compare).filter(w -> w > 0).orElse(null);
        }

        int heavier(int one, int other) {
            Integer a = heaviest(at(one).parcels);
            Integer b = heaviest(at(other).parcels);
            return sign(a, ">", b) ? 1 : sign(a, "<", b) ? -1 : sign(a, "=", b) ? 0 : 2;
        }

        int alike(int one, int other) {
            List<Parcel> a = at(one).parcels;
            List<Parcel> b = at(other).parcels;
            int places = 0;
            while (places < a.size() && places < b.size()
                    && sign(a.get(places).weight, "=", b.get(places).weight)
                    && sign(a.get(places).girth, "=", b.get(places).girth)) {
                places++;
            }
            return places;
        }

        int streak() {
            int streak = 0;
            for (int k = 0; k < came.size(); k++) {
                boolean falls = k > 0 && sign(came.get(k).weight, "<", came.get(k - 1).weight);
                streak = falls ? 1 : streak + 1;
            }
            return streak;
        }

        int gauge(int what) {
            Parcel last = aside.isEmpty() ? new Parcel(null, null, 0) : aside.get(aside.size() - 1);
            return switch (what) {
                case 0 -> came.stream().map(p -> shown(p.weight)).filter(w -> w > 0).min(Integer::compare).orElse(0);
                case 1 -> shown(heaviest(came));
                case 2 -> came.stream().map(p -> shown(p.girth)).max(Integer::compare).orElse(0);
                case 3 -> streak();
                case 4 -> came.size();
                case 5 -> aside.size();
                case 6 -> shown(last.weight);
                case 7 -> shown(last.girth);
                default -> throw new IllegalArgumentException();
            };
        }
    }

    private interface Call {
        int answer();
    }

    private static int wrong = 0;

    private static String outcome(Call call) {
        try {
            return Integer.toString(call.answer());
        } catch (RuntimeException e) {
            return e.getClass().getName();
        }
    }

    private static void compare(int run, int step, String name, Call got, Call want) {
        String answered = outcome(got);
        String due = outcome(want);
        if (!answered.equals(due)) {
            wrong++;
            if (wrong <= SHOWN) {
                System.out.println("run " + run + ", call " + step + ": " + name + " answered " + answered + ", due is " + due);
            }
        }
    }

    /** Mostly few distinct numbers, so that equal ones are common; at times an edge or a wrong one. */
    private static int number(Random dice, int most) {
        int[] edges = {-1, most, most + 1, most - 1, Integer.MIN_VALUE, Integer.MAX_VALUE};
        if (dice.nextInt(25) == 0) {
            return edges[dice.nextInt(edges.length)];
        }
        return dice.nextInt(10);
    }

    private static int oneOf(Random dice, int count) {
        return dice.nextInt(40) == 0 ? dice.nextInt(count + 6) - 3 : dice.nextInt(count);
    }

    private static void step(int run, int step, Random dice, ParcelChutes x, Model m, int chutes) {
        int a = oneOf(dice, chutes);
        int b = oneOf(dice, chutes);
        int sort = oneOf(dice, 5);
        int w = number(dice, 800000);
        int v = number(dice, 800000);
        int g = number(dice, 16000);
        int place = dice.nextInt(15) - 1;
        int eight = oneOf(dice, 8);
        int three = oneOf(dice, 3);
        boolean shut = dice.nextInt(3) == 0;
        switch (dice.nextInt(30)) {
            case 0 -> compare(run, step, "sort", () -> x.sort(a, sort), () -> m.sort(a, sort));
            case 1 -> compare(run, step, "limits", () -> x.limits(a, w, v, g), () -> m.limits(a, w, v, g));
            case 2 -> compare(run, step, "shut", () -> x.shut(a, shut) ? 1 : 0, () -> m.shut(a, shut));
            case 3 -> compare(run, step, "fits", () -> x.fits(w, g), () -> m.fits(w, g));
            case 4 -> compare(run, step, "signs", () -> x.signs(a, three, w), () -> m.signs(a, three, w));
            case 5, 6 -> compare(run, step, "chute", () -> x.chute(a, eight), () -> m.chute(a, eight));
            case 7, 8 -> compare(run, step, "weight", () -> x.weight(a, place), () -> m.weight(a, place));
            case 9, 10 -> compare(run, step, "girth", () -> x.girth(a, place), () -> m.girth(a, place));
            case 11 -> compare(run, step, "below", () -> x.below(a, w), () -> m.below(a, w));
            case 12, 13 -> compare(run, step, "take", () -> x.take(a, w), () -> m.take(a, w));
            case 14 -> compare(run, step, "pour", () -> x.pour(a, b), () -> m.pour(a, b));
            case 15 -> compare(run, step, "sweep", () -> x.sweep(a), () -> m.sweep(a));
            case 16 -> compare(run, step, "heavier", () -> x.heavier(a, b), () -> m.heavier(a, b));
            case 17 -> compare(run, step, "alike", () -> x.alike(a, b), () -> m.alike(a, b));
            case 18, 19 -> compare(run, step, "gauge", () -> x.gauge(eight), () -> m.gauge(eight));
            default -> compare(run, step, "send", () -> x.send(w, g), () -> m.send(w, g));
        }
    }

    private static void compareAll(int run, ParcelChutes x, Model m) {
        for (int k = 0; k < 8; k++) {
            int chute = k;
            for (int n = 0; n < PLACES; n++) {
                int place = n;
                compare(run, CALLS, "last chute", () -> x.chute(chute, place), () -> m.chute(chute, place));
                compare(run, CALLS, "last weight", () -> x.weight(chute, place), () -> m.weight(chute, place));
                compare(run, CALLS, "last girth", () -> x.girth(chute, place), () -> m.girth(chute, place));
            }
            compare(run, CALLS, "last gauge", () -> x.gauge(chute), () -> m.gauge(chute));
        }
    }

    public static void main(String[] args) {
        for (int run = 0; run < RUNS; run++) {
            Random dice = new Random(run);
            ParcelChutes x = new ParcelChutes();
            Model m = new Model();
            // Few chutes in some runs, so that they fill up.
            int chutes = 2 + run % 7;
            for (int k = 0; k < chutes; k++) {
                int chute = k;
                int sort = dice.nextInt(5);
                compare(run, 0, "sort", () -> x.sort(chute, sort), () -> m.sort(chute, sort));
            }
            // The readings count as calls: what an object answers behind its 512th is free.
            boolean readAtEnd = run % 2 == 0;
            int steps = CALLS - chutes - (readAtEnd ? READINGS : 0);
            for (int step = 1; step <= steps; step++) {
                step(run, step, dice, x, m, chutes);
            }
            if (readAtEnd) {
                compareAll(run, x, m);
            }
        }
        System.out.println(wrong == 0 ? "the model agrees" : wrong + " answers differ from the model's");
        if (wrong != 0) {
            System.exit(1);
        }
    }
}
