import java.lang.reflect.InvocationTargetException;
import java.lang.reflect.Method;
import java.util.ArrayList;
import java.util.Arrays;
import java.util.List;
import java.util.Random;

/** Runs of calls by lot (of fixed seeds), each answer held against the Oracle's. */
final class RandomRunsTest {
    private static final int RUNS = 300;
    private static final int CALLS = 300;

    /** A call, how often it comes, and for each number the least and the most that are told. */
    private record Sort(String name, int often, int... ranges) { }

    private static final Sort[] SORTS = {
        new Sort("part", 8, 0, 5, 0, 9, 0, 999, 0, 1023), new Sort("drop", 1), new Sort("gear", 8, 0, 5, 8, 200, 8, 200),
        new Sort("ungear", 3, 0, 5), new Sort("shaft", 2, 1, 999), new Sort("set", 4, 0, 5, 0, 2, 0, 9),
        new Sort("set", 3, 0, 5, 1, 1, 0, 999), new Sort("set", 3, 0, 5, 2, 2, 0, 1023), new Sort("kind", 3, 0, 5, 0, 5),
        new Sort("of", 3, 0, 5, 0, 22), new Sort("taken", 3, 0, 5, 0, 5), new Sort("jam", 4, 0, 5, 0, 3),
        new Sort("speed", 3, 0, 5, 0, 1), new Sort("turn", 1, 1, 99999), new Sort("turn", 2, 1, 300),
        new Sort("height", 2), new Sort("heightAt", 3, 0, 99999), new Sort("heightOf", 3, 0, 5, 0, 99999),
        new Sort("place", 3, 0, 5, 0, 99999), new Sort("waters", 3, 0, 99999, 1, 2000, 0, 3),
        new Sort("waters", 3, 0, 50, 1, 60, 0, 3), new Sort("water", 3, 0, 99999, 1, 2000, 0, 1, 0, 40),
        new Sort("water", 3, 0, 50, 1, 60, 0, 1, 0, 5), new Sort("tells", 1, 0, 3, 0, 99999, 0, 3),
        new Sort("film", 2, 0, 3, 0, 99999, 0, 40), new Sort("off", 3, 0, 5, 10001, 99999999, 0, 9999, 0, 1),
        new Sort("alike", 3, -1, 5), new Sort("drawn", 2, -100, 100, 0, 99999),
        new Sort("chance", 2, -100, 100, 1, 20, 0, 99999, -50000000, 50000000, 0, 1),
        new Sort("feed", 1, 1, 5, 0, 255, 0, 255, 0, 255, 0, 255, 0, 255), new Sort("text", 1), new Sort("image", 1),
        new Sort("back", 1), new Sort("load", 2, 0, 3, 0, 1, 0, 39, 0, 6), new Sort("load", 1, 0, 3, 0, 1, 0, 0, 0, 2),
        new Sort("count", 4, 0, 5), new Sort("sheet", 3, 0, 3, -1, 1, 0, 40), new Sort("put", 5, 0, 3, 0, 39, 0, 9),
        new Sort("item", 4, 0, 3, 0, 39), new Sort("copy", 4, 0, 3, 0, 20, 0, 3, 0, 20, 0, 20),
        // Those that take turns of several calls.
        new Sort("wrong", 3), new Sort("again", 1), new Sort("said", 6), new Sort("sheets", 1), new Sort("lookedFor", 1),
    };

    private final Random random;
    private final TideWheels mine = new TideWheels();
    private final Oracle due = new Oracle();
    private final List<String> told = new ArrayList<>();
    private boolean wrong = false;

    private RandomRunsTest(long seed) {
        random = new Random(seed);
    }

    static void all() {
        Check.test("random runs, as the Oracle answers", () -> {
            for (int run = 0; run < RUNS; run++) {
                new RandomRunsTest(run).go();
            }
        });
    }

    private void go() {
        int sum = 0;
        for (Sort sort : SORTS) {
            sum += sort.often();
        }
        while (told.size() < CALLS && !wrong) {
            int pick = random.nextInt(sum);
            int i = 0;
            while (pick >= SORTS[i].often()) {
                pick -= SORTS[i++].often();
            }
            one(SORTS[i]);
        }
    }

    private void one(Sort sort) {
        switch (sort.name()) {
            case "wrong" -> wrongSet();
            case "again" -> refound();
            case "said" -> said();
            case "sheets" -> sheets();
            case "lookedFor" -> call("nearest", 1 + random.nextInt(300), 1 + random.nextInt(300));
            default -> {
                long[] args = new long[sort.ranges().length / 2];
                boolean odd = random.nextInt(8) == 0;
                for (int i = 0; i < args.length; i++) {
                    args[i] = number(sort.ranges()[2 * i], sort.ranges()[2 * i + 1], odd);
                }
                if (sort.name().equals("put") && random.nextInt(3) == 0) {
                    args[2] = random.nextLong();
                }
                call(sort.name(), args);
            }
        }
    }

    private long number(int least, int most, boolean odd) {
        if (odd && random.nextInt(3) == 0) {
            int[] edges = {least, most, least - 1, most + 1, Integer.MIN_VALUE, Integer.MAX_VALUE, -1, 0};
            return edges[random.nextInt(edges.length)];
        }
        // Small parts' numbers come oftener, so that more calls find one.
        return most == 5 && random.nextBoolean() ? random.nextInt(2) : least + random.nextInt(most - least + 1);
    }

    private void call(String name, long... args) {
        if (wrong) {
            return;
        }
        long got = answer(mine, name, args);
        long want = answer(due, name, args);
        String row = name + Arrays.toString(args);
        told.add(row);
        Check.due(row, got, want);
        if (got != want) {
            wrong = true;
            System.out.println("  the run: " + told);
        }
    }

    private static long answer(Object x, String name, long[] args) {
        for (Method m : x.getClass().getDeclaredMethods()) {
            if (m.getName().equals(name)) {
                Object[] given = new Object[args.length];
                for (int i = 0; i < args.length; i++) {
                    boolean isLong = m.getParameterTypes()[i] == long.class;
                    given[i] = isLong ? (Object) args[i] : (Object) (int) args[i];
                }
                try {
                    return ((Number) m.invoke(x, given)).longValue();
                } catch (InvocationTargetException | IllegalAccessException e) {
                    throw new IllegalStateException(name + Arrays.toString(args), e);
                }
            }
        }
        throw new IllegalStateException("no method " + name);
    }

    /** Heights are told, then one thing is set otherwise. */
    private void wrongSet() {
        int sheet = random.nextInt(4);
        int f = random.nextInt(3) == 0 ? 99999 : random.nextInt(500);
        call("film", sheet, f, random.nextInt(9));
        int part = random.nextInt(Math.max(1, due.count(0)));
        switch (random.nextInt(4)) {
            case 0 -> call("set", part, 2, random.nextInt(1024));
            case 1 -> call("set", part, 1, random.nextInt(1000));
            case 2 -> call("kind", part, random.nextInt(6));
            default -> call("set", part, 0, random.nextInt(10));
        }
        for (int what = 0; what < 4; what++) {
            call("tells", sheet, f, what);
        }
    }

    /** High waters are told; the phases by which they are so are asked for. */
    private void refound() {
        int sheet = random.nextInt(4);
        int part = random.nextInt(Math.max(1, due.count(0)));
        int f = random.nextInt(3) == 0 ? 99999 : random.nextInt(500);
        int n = 1 + random.nextInt(40);
        int told = random.nextInt(4);
        call("sheet", sheet, random.nextInt(2), told);
        for (int k = 0; k < told; k++) {
            call("put", sheet, k, due.water(f, n, 0, k));
        }
        call("refound", sheet, part, f, n, 0);
        call("refound", sheet, part, f, n, 1);
    }

    private void sheets() {
        for (int sheet = 0; sheet < 4; sheet++) {
            for (int i = 0; i < 5; i++) {
                call("item", sheet, random.nextInt(41));
            }
        }
    }

    private String clause() {
        int part = random.nextInt(3);
        return switch (random.nextInt(5)) {
            case 0 -> "part " + random.nextInt(7) + " " + random.nextInt(11) + " " + random.nextInt(1100) + " " + random.nextInt(1100);
            case 1 -> "gear " + part + " " + (6 + random.nextInt(200)) + " " + (6 + random.nextInt(200));
            case 2 -> "shaft" + (random.nextBoolean() ? " " : "") + random.nextInt(1050);
            case 3 -> "phase " + part + "\n" + random.nextInt(1050);
            default -> "amp " + part + "  " + random.nextInt(1050);
        };
    }

    /** A text of some clauses, now and then with a byte that is another one. */
    private void said() {
        StringBuilder text = new StringBuilder(clause());
        while (random.nextInt(3) != 0) {
            text.append(random.nextBoolean() ? " ;" : ";").append(clause());
        }
        if (random.nextInt(3) == 0) {
            String others = "; \n0129azpA\u00ff\t";
            int at = random.nextInt(text.length());
            char other = others.charAt(random.nextInt(others.length()));
            switch (random.nextInt(3)) {
                case 0 -> text.setCharAt(at, other);
                case 1 -> text.insert(at, other);
                default -> text.deleteCharAt(at);
            }
        }
        for (int at = 0; at < text.length(); at += 5) {
            long[] args = new long[6];
            args[0] = Math.min(5, text.length() - at);
            for (int i = 0; i < args[0]; i++) {
                args[i + 1] = text.charAt(at + i);
            }
            call("feed", args);
        }
        call("text");
    }
}
