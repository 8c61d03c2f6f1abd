import java.util.ArrayList;
import java.util.List;
import java.util.Map;
import java.util.TreeMap;
import java.util.function.Consumer;
import java.util.function.LongSupplier;
import java.util.function.ToLongFunction;

/** What the tests of the boundaries share: each is about one sentence of the document, on objects of its own. */
abstract class Edge {
    static final int NONE = -1, BAD = -2, STATE = -3, FULL = -4;
    static final int MISSING = -11, OUTSIDE = -12, OTHER = -13, BELOW = -14;
    static final long NO = Long.MIN_VALUE;
    static final int LEAST = Integer.MIN_VALUE, MOST = Integer.MAX_VALUE;

    /** How many boundaries of each promise (0: of the terms) were tested. */
    private static final Map<Integer, Integer> COVERED = new TreeMap<>();

    /** Nothing is done to a new object. */
    static final Consumer<TideWheels> NEW = x -> { };

    /** An object that has something of all that a refused call might spoil. */
    static final Consumer<TideWheels> RICH = x -> {
        x.part(3, 7, 11, 900);
        x.gear(0, 20, 40);
        x.image();
        x.part(0, 1, 23, 45);
        x.gear(1, 30, 20);
        x.gear(1, 200, 8);
        x.part(4, 2, 500, 300);
        x.shaft(21);
        x.turn(77);
        x.sheet(0, 0, 6);
        x.put(0, 0, 1L << 40);
        x.put(0, 5, -7);
        x.sheet(1, 1, 9);
        x.put(1, 0, 12);
        x.put(1, 8, 34);
        x.film(3, 70, 8);
        x.feed(5, 's', 'h', 'a', 'f', 't');
        x.feed(2, ' ', '9', 0, 0, 0);
    };

    /** Six parts, as many as can be. */
    static final Consumer<TideWheels> CROWDED = x -> {
        RICH.accept(x);
        x.part(1, 0, 1, 2);
        x.part(2, 3, 4, 5);
        x.part(5, 6, 7, 8);
    };

    /** A part with as many pairs as can be. */
    static final Consumer<TideWheels> GEARED = x -> {
        RICH.accept(x);
        x.gear(0, 50, 60);
        x.gear(0, 70, 80);
    };

    /** A wheel that is 64 places on with each tick: it is highest at 4, 20, 36 .., and lowest at 12, 28 .. */
    static final Consumer<TideWheels> TIDE = x -> x.part(0, 0, 3, 0);

    static void edge(String words, Consumer<TideWheels> body) {
        cover(words);
        Check.test(words, () -> body.accept(new TideWheels()));
    }

    /** As edge, on an object that a recipe made. */
    static void edge(String words, Consumer<TideWheels> recipe, Consumer<TideWheels> body) {
        edge(words, recipe.andThen(body));
    }

    /** Each call, on an object of its own that the recipe made, answers what is due, and changes nothing. */
    @SafeVarargs
    static void refuses(String words, Consumer<TideWheels> recipe, long want, ToLongFunction<TideWheels>... calls) {
        cover(words);
        Check.test(words, () -> {
            for (int i = 0; i < calls.length; i++) {
                TideWheels x = new TideWheels();
                recipe.accept(x);
                Check.due(words + " (call " + i + ")", calls[i].applyAsLong(x), want);
                isAs(words + " (call " + i + ")", x, recipe);
            }
        });
    }

    static void due(long got, long want) {
        Check.due("the call", got, want);
    }

    static void due(String call, long got, long want) {
        Check.due(call, got, want);
    }

    /** The object is as one that the recipe makes; it takes some hundred calls, and uses up both. */
    static void isAs(String words, TideWheels x, Consumer<TideWheels> recipe) {
        TideWheels other = new TideWheels();
        recipe.accept(other);
        isAs(words, x, other);
    }

    static void isAs(String words, TideWheels x, TideWheels other) {
        List<String> mine = tale(x);
        List<String> its = tale(other);
        for (int i = 0; i < Math.max(mine.size(), its.size()); i++) {
            String here = i < mine.size() ? mine.get(i) : "nothing more";
            String there = i < its.size() ? its.get(i) : "nothing more";
            if (!here.equals(there)) {
                System.out.println("  " + words + " changed something: " + here + ", not " + there);
                Check.due(words + " changed nothing, line " + i, 1, 0);
                return;
            }
        }
        Check.due(words + " changed nothing", 0, 0);
    }

    /** All that an object tells of itself: its parts, its sheets, what its tape does, what its image has. */
    private static List<String> tale(TideWheels x) {
        List<String> tale = new ArrayList<>();
        tell(tale, "bytes", () -> x.count(2));
        tellWorks(tale, x);
        for (int sheet = 0; sheet < 4; sheet++) {
            int s = sheet;
            // Taken for longs with n 0: whether it is missing, longs, or ints.
            tell(tale, "sort of sheet " + s, () -> x.load(s, 0, 0, 0));
            long item = 0;
            for (int i = 0; i < 41 && item != NO; i++) {
                item = x.item(s, i);
                tale.add("item " + i + " of sheet " + s + " is " + item);
            }
        }
        tell(tale, "the text", x::text);
        tellWorks(tale, x);
        tell(tale, "back", x::back);
        tellWorks(tale, x);
        return tale;
    }

    private static void tellWorks(List<String> tale, TideWheels x) {
        int parts = x.count(0);
        tale.add("parts " + parts);
        tell(tale, "tick", () -> x.count(1));
        tell(tale, "shaft", () -> x.count(5));
        tell(tale, "height", x::height);
        for (int part = 0; part < parts; part++) {
            int p = part;
            for (int what : new int[] {0, 1, 2, 3, 4, 10, 20, 11, 21, 12, 22}) {
                tell(tale, "of " + p + ", " + what, () -> x.of(p, what));
            }
            tell(tale, "above of " + p, () -> x.speed(p, 0));
            tell(tale, "below of " + p, () -> x.speed(p, 1));
        }
    }

    private static void tell(List<String> tale, String what, LongSupplier asked) {
        tale.add(what + " is " + asked.getAsLong());
    }

    private static void cover(String words) {
        COVERED.merge(Integer.parseInt(words.substring(0, words.indexOf(':'))), 1, Integer::sum);
    }

    /** No promise may be without boundaries: a test of its own, behind all others. */
    static void allCovered() {
        Check.test("each promise has tests of its boundaries", () -> {
            for (int promise = 0; promise <= 37; promise++) {
                Check.due("promise " + promise + " is covered", COVERED.containsKey(promise) ? 1 : 0, 1);
            }
        });
    }
}
