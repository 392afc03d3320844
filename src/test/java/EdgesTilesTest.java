/** Sentences that name a boundary: tiles, their names, neighbours and rings (Terms 2, Promises 7 to 11). */
public final class EdgesTilesTest {
    private static final Edges E = new Edges();
    private static final int LEAST = Integer.MIN_VALUE;
    private static final int MOST = Integer.MAX_VALUE;
    /** All tiles up to its rim are just 2000. */
    private static final String JUST_ALL = "corners 2 3 4 4;";
    /** Of all boards the one whose rim is farthest: 23. */
    private static final String FARTHEST = "corners 2 3 7;";
    /** Without corners, its rim is nearest of all: 3. */
    private static final String NEAREST = "corners 0 0 0 0 0 0 0 0;";
    private static final String[] BOARDS = {"corners 2 2 2 2 2;", FARTHEST, JUST_ALL, NEAREST, "corners 0 0 0;",
        "corners 9 9 9;", "corners 3 4 5 6 7 8 9 0;", "corners 2 9 0;", "corners 2 2 2 3;", "corners 4 2 4 2;"};

    public static void main(String[] args) {
        numbers();
        tilesApart();
        namesAndWays();
        tile();
        across();
        name();
        ways();
        ring();
        E.due.end();
    }

    private static void numbers() {
        E.sentence("Terms 2", "0 is HOME, RING 0.", () -> {
            for (String text : BOARDS) {
                FarBoard x = E.of(text);
                E.is(0, "ring of 0", () -> x.tile(0, 0));
                E.is(1, "ring of 1", () -> x.tile(1, 0));
                E.is(1, "tiles of ring 0", () -> x.ring(0));
                E.is(0, "where the ant is", () -> x.ant(0));
            }
        });
        E.sentence("Terms 2", "by TILES of RING n, the least first, by their SIDES 0 on, the TILE across that SIDE, "
                + "if it hasn't a number yet", () -> {
            for (String text : BOARDS) {
                FarBoard x = E.of(text);
                int next = 1;
                for (int tile = 0; tile < x.count(1); tile++) {
                    for (int side = 0; side < x.count(0); side++) {
                        int to = x.across(tile, side);
                        E.due.same(text + " a number left out", to > next, false);
                        next = Math.max(next, to + 1);
                    }
                }
                E.due.same(text + " all numbers", next, x.count(1));
            }
        });
        E.sentence("Terms 2", "RINGS are numbered as long as all TILES together are no more than 2000", () -> {
            FarBoard just = E.of(JUST_ALL);
            E.is(2000, "just 2000", () -> just.count(1));
            E.is(just.count(2), "ring of the last one", () -> just.tile(1999, 0));
            // Of all boards the fewest above 2000: 2015 with one ring more.
            FarBoard above = E.of("corners 3 4 7;");
            int rim = above.count(2);
            E.is(2015L, "one ring more", () -> above.count(1) + above.growth(rim + 1));
            E.is(0, "it isn't numbered", () -> above.ring(rim + 1));
            for (String text : BOARDS) {
                FarBoard x = E.of(text);
                E.is(true, text + " one ring more would be too many",
                        () -> x.count(1) <= 2000 && x.count(1) + x.growth(x.count(2) + 1) > 2000);
            }
        });
        E.sentence("Terms 2", "the last such RING is THE RIM", () -> {
            E.is(23, "the farthest", () -> E.of(FARTHEST).count(2));
            E.is(3, "the nearest", () -> E.of(NEAREST).count(2));
            for (String text : BOARDS) {
                FarBoard x = E.of(text);
                int rim = x.count(2);
                E.is(rim, "ring of the last tile", () -> x.tile(x.count(1) - 1, 0));
                E.is(true, "it has tiles", () -> x.ring(rim) > 0);
                int all = 0;
                for (int ring = 0; ring <= rim; ring++) {
                    all += x.ring(ring);
                }
                E.due.same("all rings together", all, x.count(1));
            }
        });
        E.sentence("Terms 2", "(Across SIDES of THE RIM are TILES without numbers.)", () -> {
            for (String text : BOARDS) {
                FarBoard x = E.of(text);
                for (int tile = 0; tile < x.count(1); tile++) {
                    int without = 0;
                    for (int side = 0; side < x.count(0); side++) {
                        int to = x.across(tile, side);
                        without += to == -1 ? 1 : 0;
                        E.due.same(text + " across is one of all", to >= -1 && to < x.count(1), true);
                    }
                    E.due.same(text + " some are without at the rim alone", without > 0, x.tile(tile, 0) == x.count(2));
                }
            }
        });
        E.sentence("Terms 2", "RING of a TILE is its least number of steps from HOME.", () -> {
            for (String text : BOARDS) {
                FarBoard x = E.of(text);
                int[] steps = stepsFromHome(x);
                for (int i = 0; i < steps.length; i++) {
                    int tile = i;
                    E.is(steps[i], text + " ring of " + i, () -> x.tile(tile, 0));
                }
            }
        });
    }

    private static int[] stepsFromHome(FarBoard x) {
        int[] steps = new int[x.count(1)];
        java.util.Arrays.fill(steps, -1);
        steps[0] = 0;
        java.util.ArrayDeque<Integer> queue = new java.util.ArrayDeque<>(java.util.List.of(0));
        while (!queue.isEmpty()) {
            int tile = queue.remove();
            for (int side = 0; side < x.count(0); side++) {
                int to = x.across(tile, side);
                if (to != -1 && steps[to] == -1) {
                    steps[to] = steps[tile] + 1;
                    queue.add(to);
                }
            }
        }
        return steps;
    }

    private static void tilesApart() {
        E.sentence("Terms 2", "lies a TILE of RING n less 1, if t has it there already", () -> {
            for (String text : BOARDS) {
                FarBoard x = E.of(text);
                for (int tile = 0; tile < x.count(1); tile++) {
                    for (int side = 0; side < x.count(0); side++) {
                        int to = x.across(tile, side);
                        E.due.same(text + " back across", to == -1 ? tile : x.across(to, side), tile);
                    }
                }
            }
        });
        E.sentence("Terms 2", "going round it from t by r, s, r .. in turn, if c less 1 steps all lead to a lesser RING each",
                () -> {
            for (int corner = 2; corner <= 9; corner++) {
                FarBoard x = E.of("corners " + corner + " 9 9;");
                int many = corner;
                // Round home's corner, and round those of other tiles: behind a side 2, which is across from both.
                for (int from : new int[] {0, x.across(0, 2)}) {
                    int[] one = way(x, from, 0, 1, many);
                    int[] other = way(x, from, 1, 0, many);
                    boolean fits = x.tile(from, 0) + many <= x.count(2);
                    for (int i = 1; i < many; i++) {
                        E.due.same("apart ahead of " + many, one[i] == other[i], false);
                    }
                    E.due.same("one by " + many, one[many] == other[many] && one[many] != -1, fits);
                }
            }
            // Just at the rim: corners of 9, rim 9. Three pairs of tiles are one there.
            FarBoard nine = E.of("corners 9 9 9;");
            E.is(9, "the rim", () -> nine.count(2));
            E.is(3 * 512 / 2 - 3, "tiles there", () -> nine.ring(9));
        });
        E.sentence("Terms 2", "the SIDES of a CORNER c that isn't 0", () -> {
            FarBoard x = E.of("corners 0 0 0;");
            for (int ring = 1; ring <= x.count(2); ring++) {
                int asked = ring;
                E.is(3 << ring - 1, "none are one in ring " + ring, () -> x.ring(asked));
            }
            FarBoard y = E.of("corners 0 2 0 2;");
            E.is(false, "0 1", () -> y.walk(0, Edges.row(0, 1), 2) == y.walk(0, Edges.row(1, 0), 2));
            E.is(true, "1 2", () -> y.walk(0, Edges.row(1, 2), 2) == y.walk(0, Edges.row(2, 1), 2));
        });
        E.sentence("Terms 2", "Else it is another one than all those.", () -> {
            // Sides that share no corner: 0 and 2 of five.
            FarBoard x = new FarBoard();
            E.is(false, "0 2 and 2 0", () -> x.walk(0, Edges.row(0, 2), 2) == x.walk(0, Edges.row(2, 0), 2));
            E.is(5 * 4 - 5, "ring 2: five pairs are one", () -> x.ring(2));
            // Corners of 3: nothing is one ahead of ring 3.
            FarBoard y = E.of("corners 3 3 3 3;");
            E.is(4 * 3, "ring 2", () -> y.ring(2));
            E.is(4 * 3 * 3 - 4, "ring 3", () -> y.ring(3));
        });
    }

    /** The tiles on a way by two sides in turn, the first one too; -1 where it is lost. */
    private static int[] way(FarBoard x, int from, int one, int other, int many) {
        int[] way = new int[many + 1];
        for (int i = 0; i <= many; i++) {
            way[i] = x.walk(from, Edges.inTurn(one, other, i), i);
        }
        return way;
    }

    private static void namesAndWays() {
        E.sentence("Terms 2", "of all rows of as few steps the first as a row", () -> {
            for (String text : BOARDS) {
                FarBoard x = E.of(text);
                String[] names = new String[x.count(1)];
                for (int tile = 0; tile < names.length; tile++) {
                    StringBuilder name = new StringBuilder();
                    for (int i = 0; i < x.tile(tile, 0); i++) {
                        name.append(x.name(tile, i));
                    }
                    names[tile] = name.toString();
                    String first = tile == 0 ? "" : "9";
                    for (int side = 0; side < x.count(0) && tile > 0; side++) {
                        int to = x.across(tile, side);
                        if (to != -1 && to < tile) {
                            String by = names[to] + side;
                            first = by.compareTo(first) < 0 ? by : first;
                        }
                    }
                    E.due.same(text + " name of " + tile, names[tile], first);
                }
            }
        });
        E.sentence("Terms 2", "WAYS: how many rows of as few steps lead from HOME to it.", () -> {
            for (String text : BOARDS) {
                FarBoard x = E.of(text);
                E.is(1L, "ways to home", () -> x.ways(0));
                for (int tile = 1; tile < x.count(1); tile++) {
                    long sum = 0;
                    for (int side = 0; side < x.count(0); side++) {
                        int to = x.across(tile, side);
                        sum += to != -1 && to < tile ? x.ways(to) : 0;
                    }
                    E.due.same(text + " ways to " + tile, x.ways(tile), sum);
                }
            }
        });
        E.sentence("Terms 2", "LESSER: how many of its neighbours are of a lesser RING.", () -> {
            FarBoard x = new FarBoard();
            E.is(0, "home has none", () -> x.tile(0, 1));
            E.is(1, "ring 1", () -> x.tile(5, 1));
            E.is(2, "0 1, which is 1 0", () -> x.tile(6, 1));
            E.is(1, "0 2", () -> x.tile(7, 1));
            for (String text : BOARDS) {
                FarBoard y = E.of(text);
                for (int tile = y.count(1) - 1; tile > 0 && y.tile(tile, 0) == y.count(2); tile--) {
                    E.due.same(text + " at the rim all numbered ones are", y.tile(tile, 1), y.tile(tile, 4));
                }
            }
        });
    }

    private static void tile() {
        E.sentence("Promise 7", "0 RING, 1 LESSER, 2 COLOUR by CLASSES, 3 COLOUR that the ANT painted, "
                + "4 how many numbered neighbours", () -> {
            FarBoard x = E.of("corners 0 0 0;ant 1 1 1;");
            x.steps(2);
            int last = x.count(1) - 1;
            int[] home = {0, 0, 0, 1, 3};
            // The last one's name is 2 1 2 1 2 1 2 1 2: five times 2, four times 1.
            int[] ofTheRim = {9, 1, 4, 0, 1};
            for (int i = 0; i < 5; i++) {
                int what = i;
                E.is(home[i], "home " + i, () -> x.tile(0, what));
                E.is(ofTheRim[i], "the last " + i, () -> x.tile(last, what));
            }
        });
        E.sentence("Promise 7", "NoSuchElementException: no such TILE (as everywhere), what.", () -> {
            FarBoard x = E.of(JUST_ALL);
            for (int what = 0; what < 5; what++) {
                int asked = what;
                for (int tile : new int[] {-1, 2000, 2001, LEAST, MOST}) {
                    E.noElement("tile " + tile + " " + what, () -> x.tile(tile, asked));
                }
                E.is(true, "1999 is one", () -> x.tile(1999, asked) >= 0);
            }
            for (int what : new int[] {-1, 5, LEAST, MOST}) {
                E.noElement("tile 0 " + what, () -> x.tile(0, what));
                E.noElement("tile 2000 " + what, () -> x.tile(2000, what));
            }
        });
        E.sentence("Promise 7", "no such TILE (as everywhere)", () -> {
            // The object had 2000 tiles; now it has fewer.
            FarBoard x = E.of(JUST_ALL);
            everywhere(x, 2000);
            E.change(x, NEAREST);
            everywhere(x, 457);
            E.change(x, FARTHEST);
            everywhere(x, 1853);
        });
    }

    private static void everywhere(FarBoard x, int tiles) {
        E.is(tiles, "tiles", () -> x.count(1));
        for (int tile : new int[] {-1, tiles, tiles + 1, 2000, 2001, LEAST, MOST}) {
            E.noElement("tile " + tile, () -> x.tile(tile, 0));
            E.noElement("across " + tile, () -> x.across(tile, 0));
            E.noElement("name " + tile, () -> x.name(tile, 0));
            E.noElement("ways " + tile, () -> x.ways(tile));
            E.noElement("walks " + tile, () -> x.walks(1, tile));
            E.noElement("walk " + tile, () -> x.walk(tile, 0, 0));
            E.noElement("move " + tile, () -> x.move(tile, 0));
            E.noElement("move to " + tile, () -> x.move(0, tile));
            E.noElement("order " + tile, () -> x.order(tile));
            E.noElement("back " + tile, () -> x.back(tile));
            E.noElement("apart " + tile, () -> x.apart(tile, 0));
            E.noElement("apart from " + tile, () -> x.apart(0, tile));
        }
        int last = tiles - 1;
        E.is(x.count(2), "the last one is there", () -> x.tile(last, 0));
        E.is(last, "it can be moved to", () -> x.move(0, last));
    }

    private static void across() {
        E.sentence("Promise 8", "NONE: it has no number.", () -> {
            FarBoard x = E.of("corners 0 0 0;");
            int last = x.count(1) - 1;
            E.is(-1, "beyond the rim", () -> x.across(last, 0));
            E.is(-1, "beyond the rim", () -> x.across(last, 1));
            E.is(true, "within", () -> x.across(last, 2) > 0);
            int before = last - x.ring(9);
            E.is(true, "the rim has numbers", () -> x.across(before, 0) > before);
            // 2000 have numbers, and no ring more.
            FarBoard y = E.of(JUST_ALL);
            int without = 0;
            for (int side = 0; side < 4; side++) {
                without += y.across(1999, side) == -1 ? 1 : 0;
            }
            E.due.same("sides of 1999 without", without, 4 - y.tile(1999, 4));
            E.due.same("there are some", without > 0, true);
        });
        E.sentence("Promise 8", "NoSuchElementException: also no such SIDE.", () -> {
            FarBoard x = E.of("corners 0 0 0;");
            for (int side : new int[] {-1, 3, 7, 8, LEAST, MOST}) {
                E.noElement("across 0 " + side, () -> x.across(0, side));
                E.noElement("across 5 " + side, () -> x.across(5, side));
                E.noElement("across 1533 " + side, () -> x.across(1533, side));
            }
            E.is(3, "side 2 is one", () -> x.across(0, 2));
            E.noElement("also no such tile", () -> x.across(1534, 0));
            E.change(x, NEAREST);
            E.is(8, "side 7 is one", () -> x.across(0, 7));
            E.noElement("side 8", () -> x.across(0, 8));
        });
    }

    private static void name() {
        E.sentence("Promise 9", "The i-th SIDE of THE NAME (0 on).", () -> {
            FarBoard x = E.of(FARTHEST);
            int last = x.count(1) - 1;
            E.is(true, "the first one", () -> x.name(last, 0) >= 0);
            int at = 0;
            for (int i = 0; i < 23; i++) {
                at = x.across(at, x.name(last, i));
            }
            E.due.same("where the 23 lead", at, last);
        });
        E.sentence("Promise 9", "NoSuchElementException: also there is none.", () -> {
            FarBoard x = E.of(FARTHEST);
            for (int i : new int[] {-1, 0, 1, LEAST, MOST}) {
                E.noElement("home's name is empty: " + i, () -> x.name(0, i));
            }
            E.is(1, "name of 2", () -> x.name(2, 0));
            E.noElement("its second", () -> x.name(2, 1));
            E.noElement("its one ahead of the first", () -> x.name(2, -1));
            int last = x.count(1) - 1;
            for (int i : new int[] {-1, 23, 24, 63, 64, LEAST, MOST}) {
                E.noElement("name of the last: " + i, () -> x.name(last, i));
            }
        });
    }

    private static void ways() {
        E.sentence("Promise 10", "WAYS.", () -> {
            FarBoard x = E.of(JUST_ALL);
            E.is(1L, "to home", () -> x.ways(0));
            E.is(true, "to the last", () -> x.ways(1999) >= 1);
            E.noElement("to 2000", () -> x.ways(2000));
            E.noElement("to -1", () -> x.ways(-1));
            // The tile across a corner of 2 has two; across two such corners that don't touch, four and two.
            FarBoard y = E.of("corners 2 0 2 0 0;");
            E.is(2L, "0 1", () -> y.ways(y.walk(0, Edges.row(0, 1), 2)));
            E.is(1L, "0 2", () -> y.ways(y.walk(0, Edges.row(0, 2), 2)));
            E.is(4L, "0 1 2 3", () -> y.ways(y.walk(0, Edges.row(0, 1, 2, 3), 4)));
        });
    }

    private static void ring() {
        E.sentence("Promise 11", "How many TILES a RING has (0 beyond THE RIM).", () -> {
            FarBoard x = E.of(FARTHEST);
            E.is(true, "the rim", () -> x.ring(23) > 0);
            for (int ring : new int[] {24, 25, 63, 64, 65, 1000, MOST}) {
                E.is(0, "ring " + ring, () -> x.ring(ring));
            }
            E.change(x, NEAREST);
            E.is(8 * 7 * 7, "the rim", () -> x.ring(3));
            for (int ring : new int[] {4, 5, 22, 23, 24, MOST}) {
                E.is(0, "ring " + ring + " of the nearest", () -> x.ring(ring));
            }
        });
        E.sentence("Promise 11", "NoSuchElementException: a RING below 0.", () -> {
            FarBoard x = new FarBoard();
            for (int ring : new int[] {-1, -2, LEAST}) {
                E.noElement("ring " + ring, () -> x.ring(ring));
            }
            E.is(1, "ring 0 is one", () -> x.ring(0));
        });
    }
}
