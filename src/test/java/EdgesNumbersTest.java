/** Sentences that name a boundary: growth, walks, coming home, how far (Terms 3, Promises 12 to 15). */
public final class EdgesNumbersTest {
    private static final Edges E = new Edges();
    private static final int LEAST = Integer.MIN_VALUE;
    private static final int MOST = Integer.MAX_VALUE;
    private static final long LIMIT = 1_000_000_000_000_000L;
    private static final String FARTHEST = "corners 2 3 7;";
    private static final String NEAREST = "corners 0 0 0 0 0 0 0 0;";
    private static final String[] BOARDS = {"corners 2 2 2 2 2;", FARTHEST, NEAREST, "corners 0 0 0;", "corners 9 9 9;",
        "corners 3 4 5 6 7 8 9 0;", "corners 2 9 0;", "corners 2 2 2 3;", "corners 2 3 4 4;", "corners 2 3 0;"};

    public static void main(String[] args) {
        growthTerms();
        growth();
        walks();
        home();
        far();
        E.due.end();
    }

    private static void growthTerms() {
        E.sentence("Terms 3", "1, less p by t by 1 / (1 + t)", () -> {
            // Without corners: 1 + t by 1 - (p - 1) t.
            for (int p = 3; p <= 8; p++) {
                FarBoard x = E.of("corners " + "0 ".repeat(p) + ";");
                E.is(1L, "growth 0", () -> x.growth(0));
                long due = p;
                for (int i = 1; i <= 60; i++) {
                    int n = i;
                    E.is(due > LIMIT ? -1 : due, p + " sides, growth " + i, () -> x.growth(n));
                    due = due > LIMIT ? due : due * (p - 1);
                }
            }
        });
        E.sentence("Terms 3", "and, for each CORNER m that isn't 0, more", () -> {
            // As many terms as are needed: each ring that is numbered is as great as the series says.
            for (String text : BOARDS) {
                FarBoard x = E.of(text);
                for (int i = 0; i <= x.count(2); i++) {
                    int n = i;
                    E.is((long) x.ring(i), text + " growth " + i, () -> x.growth(n));
                }
            }
        });
        E.sentence("Terms 3", "(up to 60, as long as none is above 10 to the power of 15)", () -> {
            // Reckoned apart from the program, by exact fractions.
            due("corners 2 3 7;", 60, 117_939L);
            due("corners 2 2 2 3;", 60, 502_896_074_260_752L);
            due("corners 3 5 6;", 60, 920_476_201_708_818L);
            // Of all boards those whose numbers are nearest to the limit, below it and above it.
            due("corners 2 2 5 7;", 39, LIMIT - 1_089_462_900_364L);
            due("corners 2 2 5 7;", 40, -1);
            due("corners 0 2 7 9;", 34, -1);
            due("corners 2 7 9 9;", 34, LIMIT - 1_853_207_252_559L);
            due("corners 2 7 9 9;", 35, -1);
        });
    }

    private static void due(String text, int n, long due) {
        FarBoard x = E.of(text);
        E.is(due, text + " growth " + n, () -> x.growth(n));
    }

    private static void growth() {
        E.sentence("Promise 12", "NONE: it, or one ahead, is above 10 to the power of 15.", () -> {
            for (String text : BOARDS) {
                FarBoard x = E.of(text);
                boolean above = false;
                for (int n = 0; n <= 60; n++) {
                    long growth = x.growth(n);
                    above |= growth == -1;
                    E.due.same(text + " growth " + n + " above is NONE", growth == -1, above);
                    E.due.same(text + " growth " + n + " is no more", growth <= LIMIT && growth != 0, true);
                }
            }
            FarBoard x = E.of(NEAREST);
            E.is(8L * (long) Math.pow(7, 16), "the last one", () -> x.growth(17));
            for (int i = 18; i <= 60; i++) {
                int n = i;
                E.is(-1L, "growth " + i, () -> x.growth(n));
            }
            // All anew: those that were NONE are numbers again.
            E.change(x, FARTHEST);
            E.is(117_939L, "growth 60", () -> x.growth(60));
        });
        E.sentence("Promise 12", "NoSuchElementException: n is not 0 to 60.", () -> {
            for (String text : new String[] {FARTHEST, NEAREST}) {
                FarBoard x = E.of(text);
                for (int n : new int[] {-1, 61, 62, LEAST, MOST}) {
                    E.noElement("growth " + n, () -> x.growth(n));
                }
                E.is(1L, "growth 0 is one", () -> x.growth(0));
                E.is(text.equals(NEAREST), "growth 60 is one", () -> x.growth(60) == -1);
            }
        });
    }

    private static void walks() {
        E.sentence("Terms 3", "WALKS of n steps (0 to 16) from HOME: any SIDE each step.", () -> {
            FarBoard x = E.of(FARTHEST);
            long all = 1;
            for (int n = 0; n <= 16; n++) {
                long sum = 0;
                for (int tile = 0; tile < x.count(1); tile++) {
                    sum += x.walks(n, tile);
                }
                E.due.same("walks of " + n + " steps", sum, all);
                all *= 3;
            }
            E.is(1L, "no step stays at home", () -> x.walks(0, 0));
            E.is(0L, "no step leads nowhere else", () -> x.walks(0, 1));
        });
        E.sentence("Promise 13", "(if n is no more than THE RIM; else NONE)", () -> {
            for (String text : BOARDS) {
                FarBoard x = E.of(text);
                int rim = x.count(2);
                int last = x.count(1) - 1;
                for (int i = 0; i <= 16; i++) {
                    int n = i;
                    E.is(n > rim, text + " walks " + n + " is NONE", () -> x.walks(n, 0) == -1);
                    E.is(n > rim, text + " walks " + n + " to the rim is NONE", () -> x.walks(n, last) == -1);
                }
                if (rim <= 16) {
                    E.is(x.ways(last), "walks to the rim go straight", () -> x.walks(rim, last));
                }
            }
        });
        E.sentence("Promise 13", "IllegalArgumentException: n is not 0 to 16.", () -> {
            for (String text : new String[] {FARTHEST, NEAREST}) {
                FarBoard x = E.of(text);
                for (int n : new int[] {-1, 17, 18, LEAST, MOST}) {
                    E.badArgument(text + " walks " + n, () -> x.walks(n, 0));
                }
            }
            FarBoard x = E.of(FARTHEST);
            E.is(true, "16 is one", () -> x.walks(16, 0) > 0);
        });
        E.sentence("Promise 13", "How many WALKS of n steps end at a TILE", () -> {
            FarBoard x = E.of(NEAREST);
            E.noElement("no such tile", () -> x.walks(0, 457));
            E.noElement("no such tile, beyond the rim too", () -> x.walks(4, -1));
            E.is(0L, "an odd number of steps to home", () -> x.walks(3, 0));
            E.is(8L + 7, "to a neighbour", () -> x.walks(3, 8));
            E.is(8L, "fewer, asked later", () -> x.walks(2, 0));
            E.is(1L, "none, asked later", () -> x.walks(0, 0));
        });
    }

    private static void home() {
        E.sentence("Terms 3", "COMING HOME: how many of them end at HOME (if n is no more than twice THE RIM).", () -> {
            for (String text : BOARDS) {
                FarBoard x = E.of(text);
                int rim = x.count(2);
                for (int i = 0; i <= 16; i++) {
                    int n = i;
                    E.is(n > 2 * rim, text + " home " + n + " is NONE", () -> x.home(n) == -1);
                    if (n <= rim) {
                        E.is(x.walks(n, 0), text + " home " + n + " as walks", () -> x.home(n));
                    }
                }
            }
            // On a tree of p sides, by counting ways that are up to 2, 4, 6 steps long.
            FarBoard y = E.of(NEAREST);
            long[] due = {1, 0, 8, 0, 8 * 15, 0, 8 * (8 * 8 * 5 - 6 * 8 + 2), -1, -1};
            for (int i = 0; i < due.length; i++) {
                int n = i;
                E.is(due[i], "home " + i, () -> y.home(n));
            }
            // The rim is 7: 14 steps just reach it. The rim is 8: all 16 steps do.
            FarBoard seven = E.of("corners 0 0 2 2;");
            E.is(7, "the rim", () -> seven.count(2));
            E.is(true, "home 14", () -> seven.home(14) > 0);
            E.is(-1L, "home 15", () -> seven.home(15));
            E.is(-1L, "home 16", () -> seven.home(16));
            FarBoard eight = E.of("corners 2 2 2 5;");
            E.is(8, "the rim", () -> eight.count(2));
            E.is(0L, "home 15", () -> eight.home(15));
            E.is(true, "home 16", () -> eight.home(16) > 0);
        });
        E.sentence("Promise 14", "NONE: n is above twice THE RIM.", () -> {
            FarBoard x = E.of("corners 2 2 2 2 2;");
            E.is(true, "just twice", () -> x.home(12) > 0);
            E.is(-1L, "one more, though none of an odd number come home", () -> x.home(13));
            E.is(-1L, "two more", () -> x.home(14));
            FarBoard y = E.of("corners 0 0 0;");
            E.is(0L, "an odd number", () -> y.home(15));
            // Of trees of three sides, ways of 16 steps that come back: as the walks of 8 steps say.
            long sum = 0;
            for (int tile = 0; tile < y.count(1); tile++) {
                sum += y.walks(8, tile) * y.walks(8, tile);
            }
            E.is(sum, "home 16", () -> y.home(16));
        });
        E.sentence("Promise 14", "IllegalArgumentException likewise.", () -> {
            for (String text : new String[] {FARTHEST, NEAREST}) {
                FarBoard x = E.of(text);
                for (int n : new int[] {-1, -2, 17, 18, LEAST, MOST}) {
                    E.badArgument(text + " home " + n, () -> x.home(n));
                }
                E.is(1L, "0 is one", () -> x.home(0));
            }
        });
    }

    private static void far() {
        E.sentence("Terms 3", "(if n is no more than THE RIM), as a fraction in lowest terms", () -> {
            for (String text : BOARDS) {
                FarBoard x = E.of(text);
                for (int i = 0; i <= 16; i++) {
                    int n = i;
                    long upper = x.far(n, 0);
                    long lower = x.far(n, 1);
                    E.due.same(text + " far " + n + " is NONE", upper == -1 && lower == -1, n > x.count(2));
                    if (n <= x.count(2)) {
                        sameFraction(x, n, upper, lower);
                    }
                }
            }
        });
        E.sentence("Promise 15", "the upper part (what 0), the lower part (1)", () -> {
            FarBoard x = E.of("corners 0 0 0;");
            E.is(0L, "no step: 0", () -> x.far(0, 0));
            E.is(1L, "by 1", () -> x.far(0, 1));
            E.is(1L, "one step: 3 by 3", () -> x.far(1, 0));
            E.is(1L, "by 1", () -> x.far(1, 1));
            E.is(4L, "two steps: 12 by 9", () -> x.far(2, 0));
            E.is(3L, "by 3", () -> x.far(2, 1));
        });
        E.sentence("Promise 15", "NONE: n is above THE RIM.", () -> {
            FarBoard x = E.of("corners 2 2 2 2 2;");
            for (int i = 0; i < 2; i++) {
                int what = i;
                E.is(true, "far 6", () -> x.far(6, what) > 0);
                E.is(-1L, "far 7", () -> x.far(7, what));
                E.is(-1L, "far 16", () -> x.far(16, what));
            }
        });
        E.sentence("Promise 15", "NoSuchElementException: another what.", () -> {
            FarBoard x = E.of(NEAREST);
            for (int what : new int[] {-1, 2, LEAST, MOST}) {
                E.noElement("far 2 " + what, () -> x.far(2, what));
                E.noElement("beyond the rim too: far 4 " + what, () -> x.far(4, what));
            }
        });
        E.sentence("Promise 15", "IllegalArgumentException (behind that): n is not 0 to 16.", () -> {
            for (String text : new String[] {FARTHEST, NEAREST}) {
                FarBoard x = E.of(text);
                for (int n : new int[] {-1, 17, LEAST, MOST}) {
                    E.badArgument("far " + n + " 0", () -> x.far(n, 0));
                    E.badArgument("far " + n + " 1", () -> x.far(n, 1));
                    E.noElement("far " + n + " 2", () -> x.far(n, 2));
                    E.noElement("far " + n + " -1", () -> x.far(n, -1));
                }
            }
            FarBoard x = E.of(FARTHEST);
            E.is(true, "16 is one", () -> x.far(16, 0) > 0);
        });
    }

    private static void sameFraction(FarBoard x, int n, long upper, long lower) {
        java.math.BigInteger rings = java.math.BigInteger.ZERO;
        java.math.BigInteger all = java.math.BigInteger.valueOf(x.count(0)).pow(n);
        for (int tile = 0; tile < x.count(1); tile++) {
            rings = rings.add(java.math.BigInteger.valueOf(x.walks(n, tile) * x.tile(tile, 0)));
        }
        E.due.same("far " + n + " as walks say", rings.multiply(java.math.BigInteger.valueOf(lower)),
                all.multiply(java.math.BigInteger.valueOf(upper)));
        java.math.BigInteger common = java.math.BigInteger.valueOf(upper).gcd(java.math.BigInteger.valueOf(lower));
        E.due.same("far " + n + " in lowest terms", common, java.math.BigInteger.ONE);
    }
}
