/** Sentences that name a boundary: closed boards (Terms 5, Promises 22 and 23). */
public final class EdgesClosedTest {
    private static final Edges E = new Edges();
    private static final int LEAST = Integer.MIN_VALUE;
    private static final int MOST = Integer.MAX_VALUE;
    private static final int HOW_MANY = 0;
    private static final int SMOOTH = 1;
    private static final int UNLIKE = 2;
    private static final int HANDLES = 3;
    private static final int TRIES = 4;
    private static final String FREE = "corners 0 0 0;";
    private static final String SIX = "corners 2 2 2 2 2 2;";
    /** Rows of 1 to 6 numbers by which twice is back. */
    private static final int[] ROWS = {0, 1, 2, 4, 10, 26, 76};

    public static void main(String[] args) {
        rows();
        roundCorners();
        tries();
        smooth();
        unlike();
        firstOfAll();
        handles();
        closed();
        first();
        E.due.end();
    }

    private static void closed(FarBoard x, int n, int what, int due) {
        E.is(due, "closed " + n + " " + what, () -> x.closed(n, what));
    }

    private static void rows() {
        E.sentence("Terms 5", "saying which TILE lies across it (perhaps itself): twice is back", () -> {
            // Without corners each of three rows is any: the tries say how many rows there are.
            FarBoard x = E.of(FREE);
            for (int n = 1; n <= 5; n++) {
                closed(x, n, TRIES, ROWS[n] + ROWS[n] * ROWS[n] + ROWS[n] * ROWS[n] * ROWS[n]);
            }
            // Six rows that are one are left: 76 and two times 76 by 76.
            FarBoard y = E.of("corners 7 7 7;");
            closed(y, 6, TRIES, 76 + 76 * 76 + 76 * 76);
            closed(x, 1, HOW_MANY, 1);
        });
        E.sentence("Terms 5", "each TILE can be come to from TILE 0", () -> {
            // Of two tiles: not, if each row leaves both alone. Of three: not, if fewer than two pairs are across.
            for (int p = 3; p <= 8; p++) {
                FarBoard x = E.of("corners" + " 0".repeat(p) + ";");
                closed(x, 1, HOW_MANY, 1);
                closed(x, 2, HOW_MANY, (1 << p) - 1);
                closed(x, 3, HOW_MANY, (1 << 2 * p) - 1 - 3 * ((1 << p) - 1));
            }
        });
    }

    private static void roundCorners() {
        E.sentence("Terms 5", "CORNER i times both, each TILE is itself again", () -> {
            // Of two tiles an odd corner makes both rows one, an even corner or none says nothing.
            int[][] free = {{0, 0, 0, 0}, {2, 4, 6, 8}, {8, 8, 0, 2}};
            for (int[] corners : free) {
                closed(E.of(text(corners)), 2, HOW_MANY, 15);
            }
            for (int odd = 3; odd <= 9; odd += 2) {
                closed(E.of(text(odd, 8, 8, 8)), 2, HOW_MANY, 7);
                closed(E.of(text(odd, odd, odd, odd)), 2, HOW_MANY, 1);
                closed(E.of(text(8, odd, 8, 0)), 2, HOW_MANY, 7);
            }
            // Of three tiles two rows are back by 1, 2 or 3 times: all of them round 6.
            FarBoard x = E.of("corners 6 6 6;");
            closed(x, 3, HOW_MANY, 64 - 1 - 3 * 7);
            // Round 5 and 7 they are one, and then three tiles don't hang together.
            closed(E.of("corners 5 7 5;"), 3, HOW_MANY, 0);
        });
        E.sentence("Terms 5", "(the last SIDE: with that of SIDE 0, too)", () -> {
            FarBoard first = E.of("corners 3 0 0;");
            FarBoard second = E.of("corners 0 3 0;");
            FarBoard last = E.of("corners 0 0 3;");
            for (int i = 2; i <= 5; i++) {
                int n = i;
                E.is(first.closed(n, HOW_MANY), "how many of " + n, () -> last.closed(n, HOW_MANY));
                E.is(first.closed(n, HOW_MANY), "how many of " + n, () -> second.closed(n, HOW_MANY));
                E.is(first.closed(n, UNLIKE), "unlike of " + n, () -> last.closed(n, UNLIKE));
            }
            closed(last, 2, HOW_MANY, 3);
        });
    }

    private static String text(int... corners) {
        StringBuilder text = new StringBuilder("corners");
        for (int corner : corners) {
            text.append(' ').append(corner);
        }
        return text + ";";
    }

    private static void tries() {
        E.sentence("Terms 5", "one TRY each; a row that doesn't go round the CORNER with the row of the SIDE ahead "
                + "(the last SIDE: with that of SIDE 0, too) is left at once", () -> {
            // Of three tiles ten pairs of rows go round a corner of 2: three pairs of other ones don't, both ways.
            closed(E.of("corners 2 0 0;"), 3, TRIES, 4 + 16 + 10 * 4);
            closed(E.of("corners 0 2 0;"), 3, TRIES, 4 + 16 + 64);
            closed(E.of("corners 0 0 2;"), 3, TRIES, 4 + 16 + 64);
            // Of two tiles by odd corners: two drafts stand ahead of each side but the first.
            closed(E.of("corners 3 3 3 3 3 3 3 3;"), 2, TRIES, 2 + 7 * 4);
            closed(E.of("corners 3 3 3 0;"), 2, TRIES, 2 + 3 * 4);
            closed(E.of("corners 3 3 3 3;"), 1, TRIES, 4);
        });
        E.sentence("Terms 5", "More than 300,000 TRIES: SPENT.", () -> {
            // Of all boards and sizes the nearest: 299,990 tries and 300,050.
            FarBoard below = E.of("corners 9 7 0 7 0 8 2 2;");
            closed(below, 4, TRIES, 299_990);
            E.is(true, "found", () -> below.closed(4, HOW_MANY) > 0);
            FarBoard above = E.of("corners 5 6 5 4 2 4 2 2;");
            closed(above, 4, TRIES, -2);
            FarBoard x = E.of("corners 0 0 0 0;");
            closed(x, 4, TRIES, 10 + 100 + 1000 + 10_000);
            closed(x, 5, TRIES, -2);
        });
        E.sentence("Promise 22", "-2 of all: SPENT.", () -> {
            FarBoard x = E.of(FREE);
            for (int what = 0; what <= 4; what++) {
                closed(x, 6, what, -2);
            }
            // Others are not, though that one is.
            closed(x, 5, TRIES, 18_278);
            closed(x, 2, SMOOTH, 1);
            FarBoard y = E.of("corners 5 6 5 4 2 4 2 2;");
            for (int what = 4; what >= 0; what--) {
                closed(y, 4, what, -2);
            }
        });
    }

    private static void smooth() {
        E.sentence("Terms 5", "no TILE lies across from itself", () -> {
            FarBoard x = E.of(FREE);
            // One row of two tiles, three of four; no row of one or three or five.
            int[] due = {0, 0, 1, 0, 27 - 3, 0};
            for (int n = 1; n <= 5; n++) {
                closed(x, n, SMOOTH, due[n]);
            }
        });
        E.sentence("Terms 5", "round each CORNER not 0, both CORNER i times are the fewest by which any TILE is itself again",
                () -> {
            // Of two tiles both rows are one: once both is back.
            closed(E.of("corners 2 0 0;"), 2, SMOOTH, 0);
            closed(E.of("corners 0 0 9;"), 2, SMOOTH, 0);
            // Of four tiles another row each time: 3 by 2 by 3, those of the corner 2 being others.
            closed(E.of("corners 2 0 0;"), 4, SMOOTH, 3 * 2 * 3);
            closed(E.of("corners 0 0 2;"), 4, SMOOTH, 3 * 2 * 3);
            // Each side of the corner is looked at with the other one alone: the first has its third row as the first.
            FarBoard one = E.of("corners 2 0 0;");
            FarBoard two = E.of("corners 0 2 0;");
            FarBoard three = E.of("corners 0 0 2;");
            int[][] due = {{1, 2, 1}, {1, 1, 2}, {1, 1, 2}};
            for (int i = 0; i < 3; i++) {
                int side = i;
                E.is(due[0][i], "2 0 0, side " + i, () -> one.first(4, side, 0));
                E.is(due[1][i], "0 2 0, side " + i, () -> two.first(4, side, 0));
                E.is(due[2][i], "0 0 2, side " + i, () -> three.first(4, side, 0));
            }
            // Twice both is back, so 4, 6 and 8 times too, but those are not the fewest.
            for (int corner = 4; corner <= 8; corner += 2) {
                FarBoard x = E.of(text(corner, corner, corner, corner));
                E.is(true, "closed ones", () -> x.closed(4, HOW_MANY) > 0);
                closed(x, 4, SMOOTH, 0);
            }
            // Six rows round six corners of 2, each another than the next: 2 to the power of 6, and 2.
            closed(E.of(SIX), 4, SMOOTH, 64 + 2);
        });
    }

    private static void unlike() {
        E.sentence("Terms 5", "HOW MANY UNLIKE: those that differ but by numbers of TILES are one.", () -> {
            FarBoard x = E.of(FREE);
            closed(x, 1, UNLIKE, 1);
            // Two tiles may change numbers, and each board is as it was.
            closed(x, 2, UNLIKE, 7);
            // Of three tiles each has six numberings, and none of them is as another.
            closed(x, 3, UNLIKE, 42 / 6);
            FarBoard y = E.of("corners 3 9 9;");
            closed(y, 4, HOW_MANY, 24);
            closed(y, 4, UNLIKE, 1);
            // Of four and five, by the program and by a model of it that was written apart (TablesTest).
            closed(x, 4, HOW_MANY, 642);
            closed(x, 4, UNLIKE, 44);
            closed(x, 5, HOW_MANY, 10_200);
            closed(x, 5, UNLIKE, 85);
            FarBoard none = E.of("corners 4 4 4;");
            closed(none, 5, HOW_MANY, 0);
            closed(none, 5, UNLIKE, 0);
        });
    }

    private static void firstOfAll() {
        E.sentence("Terms 5", "of all rows by which twice is back, the least as a row first", () -> {
            // Three pairs of two: 1 0 3 2, 2 3 0 1, 3 2 1 0. Three times the first one doesn't hang together.
            FarBoard x = E.of(FREE);
            int[][] due = {{1, 0, 3, 2}, {1, 0, 3, 2}, {2, 3, 0, 1}};
            for (int side = 0; side < 3; side++) {
                for (int i = 0; i < 4; i++) {
                    int asked = side;
                    int tile = i;
                    E.is(due[side][i], "first 4 " + side + " " + i, () -> x.first(4, asked, tile));
                }
            }
        });
        E.sentence("Terms 5", "FIRST: the first SMOOTH one that is come to", () -> {
            // All 254 that are come to ahead of it have a row that leaves both tiles alone.
            FarBoard x = E.of("corners 0 0 0 0 0 0 0 0;");
            closed(x, 2, SMOOTH, 1);
            for (int i = 0; i < 8; i++) {
                int side = i;
                E.is(1, "side " + i, () -> x.first(2, side, 0));
                E.is(0, "side " + i, () -> x.first(2, side, 1));
            }
        });
    }

    private static void handles() {
        E.sentence("Terms 5", "twice of them are 2, less TILES, more TILES by p by 2, less for each CORNER TILES by twice it",
                () -> {
            // 2 - 4 + 12 - 6 = 4.
            FarBoard x = E.of(SIX);
            closed(x, 4, HANDLES, 2);
            int[] due = {1, 0, 3, 2};
            for (int side = 0; side < 6; side++) {
                for (int i = 0; i < 4; i++) {
                    int asked = side;
                    int tile = i;
                    E.is(side % 2 == 0 ? due[i] : due[i] ^ 3, "first", () -> x.first(4, asked, tile));
                }
            }
        });
        E.sentence("Terms 5", "(of BOARDS without CORNERS 0; TILES that can be parted into two sorts, "
                + "each lying across from the other alone, else it has none)", () -> {
            for (int place = 0; place < 6; place++) {
                int[] corners = {2, 2, 2, 2, 2, 2};
                corners[place] = 0;
                FarBoard zero = E.of(text(corners));
                E.is(true, "smooth ones", () -> zero.closed(4, SMOOTH) > 0);
                closed(zero, 4, HANDLES, -1);
            }
            FarBoard all = E.of(FREE);
            closed(all, 2, SMOOTH, 1);
            closed(all, 2, HANDLES, -1);
            // Of five rows one is a third one: no two sorts.
            FarBoard five = new FarBoard();
            closed(five, 4, SMOOTH, 30);
            closed(five, 4, HANDLES, -1);
        });
        E.sentence("Promise 22", "HANDLES of the FIRST (3; NONE: there is none, it has none)", () -> {
            FarBoard x = E.of(SIX);
            for (int n = 1; n <= 3; n++) {
                closed(x, n, SMOOTH, 0);
                closed(x, n, HANDLES, -1);
            }
            // Asked behind one that has some, and ahead of it again.
            closed(x, 4, HANDLES, 2);
            closed(x, 2, HANDLES, -1);
            closed(x, 4, HANDLES, 2);
            E.change(x, "corners 2 2 2 2 2;");
            closed(x, 4, HANDLES, -1);
        });
    }

    private static void closed() {
        E.sentence("Terms 5", "CLOSED BOARDS of n TILES (1 to 6)", () -> {
            FarBoard x = E.of("corners 7 7 7;");
            for (int n = 1; n <= 6; n++) {
                closed(x, n, TRIES, ROWS[n] + 2 * ROWS[n] * ROWS[n]);
            }
        });
        E.sentence("Promise 22", "NoSuchElementException: another what.", () -> {
            FarBoard x = E.of(FREE);
            for (int what : new int[] {-1, 5, LEAST, MOST}) {
                E.noElement("closed 2 " + what, () -> x.closed(2, what));
                E.noElement("closed 6 " + what, () -> x.closed(6, what));
            }
        });
        E.sentence("Promise 22", "IllegalArgumentException (behind that): n is not 1 to 6.", () -> {
            FarBoard x = E.of(FREE);
            for (int n : new int[] {0, -1, 7, 8, LEAST, MOST}) {
                for (int i = 0; i <= 4; i++) {
                    int what = i;
                    E.badArgument("closed " + n + " " + what, () -> x.closed(n, what));
                }
                E.noElement("closed " + n + " 5", () -> x.closed(n, 5));
                E.noElement("closed " + n + " -1", () -> x.closed(n, -1));
            }
            closed(x, 1, HOW_MANY, 1);
            closed(x, 6, HOW_MANY, -2);
        });
    }

    private static void first() {
        E.sentence("Promise 23", "NoSuchElementException: there is none, SPENT, no such SIDE, TILE.", () -> {
            FarBoard x = E.of(SIX);
            for (int n = 1; n <= 6; n++) {
                int size = n;
                if (n != 4) {
                    E.noElement((n < 4 ? "none" : "spent") + " of " + n, () -> x.first(size, 0, 0));
                }
            }
            for (int wrong : new int[] {-1, 6, 7, 8, LEAST, MOST}) {
                E.noElement("side " + wrong, () -> x.first(4, wrong, 0));
            }
            for (int wrong : new int[] {-1, 4, 5, 6, LEAST, MOST}) {
                E.noElement("tile " + wrong, () -> x.first(4, 0, wrong));
                E.noElement("tile " + wrong + " of the last side", () -> x.first(4, 5, wrong));
            }
            E.is(1, "side 5, tile 3", () -> x.first(4, 5, 3));
            FarBoard y = E.of(FREE);
            E.is(1, "tile 0 of two", () -> y.first(2, 2, 0));
            E.is(0, "tile 1 of two", () -> y.first(2, 2, 1));
            E.noElement("tile 2 of two", () -> y.first(2, 2, 2));
            E.noElement("side 3 of three", () -> y.first(2, 3, 0));
            // The board that was there ahead of this one had a first one of four tiles.
            E.change(x, "corners 4 4 4;");
            E.noElement("none any more", () -> x.first(4, 0, 0));
        });
        E.sentence("Promise 23", "IllegalArgumentException (ahead): n.", () -> {
            FarBoard x = E.of(FREE);
            for (int n : new int[] {0, -1, 7, LEAST, MOST}) {
                E.badArgument("first " + n, () -> x.first(n, 0, 0));
                E.badArgument("first " + n + ", no side", () -> x.first(n, 3, 0));
                E.badArgument("first " + n + ", no tile", () -> x.first(n, 0, -1));
            }
            E.noElement("1 is one", () -> x.first(1, 0, 0));
            E.noElement("6 is one", () -> x.first(6, 0, 0));
        });
    }
}
