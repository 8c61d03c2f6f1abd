import java.math.BigInteger;
import java.util.function.Consumer;

/** The boundaries of promises 23 to 25. */
final class GearsEdges extends Edge {
    private GearsEdges() { }

    static void all() {
        nearest();
        off();
        offRefused();
        alike();
    }

    private static void nearestIs(String words, int... speedsAndPairs) {
        edge(words, x -> {
            for (int i = 0; i < speedsAndPairs.length; i += 3) {
                int u = speedsAndPairs[i];
                int v = speedsAndPairs[i + 1];
                due("nearest to " + u + " by " + v, x.nearest(u, v), speedsAndPairs[i + 2]);
            }
        });
    }

    private static void nearest() {
        nearestIs("23: u and v 1, the least", 1, 1, 8008);
        nearestIs("23: u and v 9999, the most", 9999, 9999, 8008);
        nearestIs("23: u the most, v the least: the fastest PAIR that FITS", 9999, 1, 48008);
        nearestIs("23: u the least, v the most: the slowest PAIR that FITS", 1, 9999, 8048);
        nearestIs("23: exactly 6 times FITS", 6, 1, 48008, 1, 6, 8048);
        nearestIs("23: more than 6 times doesn't", 49, 8, 48008, 8, 49, 8048, 200, 33, 48008, 33, 200, 8048);
        nearestIs("23: TEETH of 300 together FIT", 199, 101, 199101, 101, 199, 101199, 151, 149, 151149);
        nearestIs("23: TEETH of 301 together don't", 200, 101, 101051, 101, 200, 51101, 151, 150, 150149);
        nearestIs("23: TEETH of 200 come", 200, 99, 200099, 99, 200, 99200, 200, 37, 200037, 37, 200, 37200);
        nearestIs("23: TEETH of 201 don't, though they are nearer", 201, 34, 136023, 34, 201, 23136);
        nearestIs("23: TEETH fewer than 8 don't, so their like is found", 7, 8, 14016, 8, 7, 16014, 1, 2, 8016, 7, 7, 8008);
        nearestIs("23: of like ones the least a", 100, 200, 8016, 200, 100, 16008, 3, 2, 12008);
        // 68 by 14 and its likes are as much above it as 175 by 36 is below it.
        nearestIs("23: of those that are as much above as below, the least a", 2449, 504, 68014, 3405, 598, 74013,
            8351, 1450, 144025, 4511, 1320, 41012);
        edge("23: PARTS and THE SHAFT don't matter", RICH, x -> {
            due(x.nearest(1, 1), 8008);
            isAs("nearest", x, RICH);
        });
        refuses("23: u below 1 or above 9999 is BAD", RICH, BAD, x -> x.nearest(0, 1), x -> x.nearest(-1, 1),
            x -> x.nearest(10000, 1), x -> x.nearest(LEAST, 1), x -> x.nearest(MOST, 1));
        refuses("23: v below 1 or above 9999 is BAD", RICH, BAD, x -> x.nearest(1, 0), x -> x.nearest(1, -1),
            x -> x.nearest(1, 10000), x -> x.nearest(1, LEAST), x -> x.nearest(1, MOST));
    }

    /** How far a part is off, whose train has these pairs. */
    private static void offIs(String words, int shaft, int uv, int n, long above, long below, int... pairs) {
        edge(words, x -> {
            x.shaft(shaft);
            x.part(0, 0, 0, 0);
            for (int i = 0; i < pairs.length; i += 2) {
                x.gear(0, pairs[i], pairs[i + 1]);
            }
            due("above the line", x.off(0, uv, n, 0), above);
            due("below the line", x.off(0, uv, n, 1), below);
        });
    }

    private static void off() {
        offIs("24: u and v 1, the least", 64, 10001, 1, 63, 1);
        offIs("24: u and v 9999, the most", 64, 99999999, 1, 63, 1);
        offIs("24: u 1, v 9999", 1, 19999, 1, 9998, 9999);
        offIs("24: u 9999, v 1: below 0 above the line", 1, 99990001, 1, -9998, 1);
        offIs("24: n 0, the least: 0 by 1", 1, 30002, 0, 0, 1);
        offIs("24: n 9999, the most", 1, 30002, 9999, -9999, 2);
        offIs("24: 0 is told as 0 by 1", 64, 640001, 5, 0, 1);
        offIs("24: 0 is told as 0 by 1, of fractions, too", 1, 10006, 5, 0, 1, 8, 48);
        offIs("24: below 0 in lowest terms: the line's other side stays above 0", 1, 30002, 4, -2, 1);
        offIs("24: times n in lowest terms", 1, 10003, 6, 4, 1);
        offIs("24: a JAM's SPEED is 0", 999, 10002, 1, -1, 2, 200, 200);
        offIs("24: the farthest above", 999, 19999, 9999, 215784L * 9999 - 1, 1, 48, 8, 48, 8, 48, 8);
        offIs("24: the farthest below", 1, 99990001, 9999, (1 - 9999L * 216) * 1111, 24, 8, 48, 8, 48, 8, 48);
        edge("24: the longest numbers don't wrap around", x -> {
            x.shaft(998);
            x.part(0, 0, 0, 0);
            for (int i = 0; i < 3; i++) {
                x.gear(0, 199, 101);
            }
            BigInteger speedAbove = BigInteger.valueOf(998L * 199 * 199 * 199);
            BigInteger speedBelow = BigInteger.valueOf(101L * 101 * 101);
            BigInteger above = speedAbove.multiply(BigInteger.valueOf(9997)).subtract(speedBelow)
                .multiply(BigInteger.valueOf(9999));
            BigInteger below = speedBelow.multiply(BigInteger.valueOf(9997));
            BigInteger both = above.gcd(below);
            due(x.off(0, 19997, 9999, 0), above.divide(both).longValueExact());
            due(x.off(0, 19997, 9999, 1), below.divide(both).longValueExact());
        });
    }

    private static void offRefused() {
        refuses("24: u of 0 is NO", RICH, NO, x -> x.off(0, 1, 1, 0), x -> x.off(0, 9999, 1, 0));
        refuses("24: u above 9999 is NO", RICH, NO, x -> x.off(0, 100000001, 1, 0), x -> x.off(0, 100009999, 1, 0),
            x -> x.off(0, MOST, 1, 0));
        refuses("24: v of 0 is NO", RICH, NO, x -> x.off(0, 10000, 1, 0), x -> x.off(0, 99990000, 1, 0),
            x -> x.off(0, 0, 1, 0), x -> x.off(0, 100000000, 1, 0));
        refuses("24: uv below 0 is NO", RICH, NO, x -> x.off(0, -1, 1, 0), x -> x.off(0, -10001, 1, 0),
            x -> x.off(0, -9999, 1, 0), x -> x.off(0, LEAST, 1, 0));
        refuses("24: n below 0 or above 9999 is NO", RICH, NO, x -> x.off(0, 10001, -1, 0), x -> x.off(0, 10001, 10000, 0),
            x -> x.off(0, 10001, LEAST, 0), x -> x.off(0, 10001, MOST, 0));
        refuses("24: line below 0 or above 1 is NO", RICH, NO, x -> x.off(0, 10001, 1, -1), x -> x.off(0, 10001, 1, 2),
            x -> x.off(0, 10001, 1, LEAST), x -> x.off(0, 10001, 1, MOST));
        refuses("24: no such PART is NO", RICH, NO, x -> x.off(-1, 10001, 1, 0), x -> x.off(3, 10001, 1, 0),
            x -> x.off(6, 10001, 1, 0), x -> x.off(LEAST, 10001, 1, 0), x -> x.off(MOST, 10001, 1, 0));
        refuses("24: without PARTS it is NO", NEW, NO, x -> x.off(0, 10001, 1, 0));
    }

    private static Consumer<TideWheels> sixOf(boolean unlike) {
        return x -> {
            for (int i = 0; i < 6; i++) {
                x.part(i, 0, i, i);
                x.gear(i, unlike ? 10 + i : 10, 20);
            }
        };
    }

    private static void alike() {
        edge("25: without PARTS there are no GROUPS", x -> due(x.alike(NONE), 0));
        edge("25: one PART is a GROUP, and alike to itself", TIDE, x -> {
            due(x.alike(NONE), 1);
            due(x.alike(0), 1);
        });
        edge("25: six of a SPEED are one GROUP, all bits", sixOf(false), x -> {
            due(x.alike(NONE), 1);
            due(x.alike(0), 63);
            due(x.alike(5), 63);
        });
        edge("25: six unlike ones are six GROUPS, each alike to itself alone", sixOf(true), x -> {
            due(x.alike(NONE), 6);
            for (int i = 0; i < 6; i++) {
                due(x.alike(i), 1 << i);
            }
        });
        edge("25: the first and the last are alike", sixOf(true), x -> {
            x.ungear(5);
            x.gear(5, 100, 200);
            due(x.alike(0), 33);
            due(x.alike(5), 33);
            due(x.alike(NONE), 5);
        });
        edge("25: SPEEDS are alike, though their PAIRS aren't", TIDE, x -> {
            x.part(0, 0, 0, 0);
            x.part(0, 0, 0, 0);
            x.gear(1, 8, 16);
            x.gear(1, 20, 10);
            x.gear(2, 8, 9);
            due(x.alike(0), 3);
            due(x.alike(2), 4);
            due(x.alike(NONE), 2);
        });
        edge("25: SPEEDS of 0 are alike, whatever their JAM is", TIDE, x -> {
            x.part(0, 0, 0, 0);
            x.part(0, 0, 0, 0);
            x.gear(0, 200, 200);
            x.gear(2, 8, 49);
            due(x.alike(0), 5);
            due(x.alike(1), 2);
            due(x.alike(NONE), 2);
        });
        edge("25: a dropped PART is alike to none", sixOf(false), x -> {
            x.drop();
            due(x.alike(0), 31);
            due(x.alike(5), BAD);
        });
        refuses("25: below NONE is BAD", RICH, BAD, x -> x.alike(-2), x -> x.alike(LEAST));
        refuses("25: no such PART is BAD", RICH, BAD, x -> x.alike(3), x -> x.alike(6), x -> x.alike(MOST));
        refuses("25: without PARTS it is BAD", NEW, BAD, x -> x.alike(0), x -> x.alike(-2));
    }
}
