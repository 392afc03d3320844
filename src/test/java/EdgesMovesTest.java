/** Sentences that name a boundary: walking, moves, colour classes (Terms 4, Promises 16 to 21). */
public final class EdgesMovesTest {
    private static final Edges E = new Edges();
    private static final int LEAST = Integer.MIN_VALUE;
    private static final int MOST = Integer.MAX_VALUE;
    private static final String FARTHEST = "corners 2 3 7;";
    private static final String NEAREST = "corners 0 0 0 0 0 0 0 0;";
    private static final String FREE = "corners 0 0 0;";
    /** Its rim is 3, so that going round the corners from 4 on is lost. */
    private static final String ALL_CORNERS = "corners 3 4 5 6 7 8 9 0;";

    public static void main(String[] args) {
        walking();
        walk();
        moves();
        orders();
        backAndApart();
        classes();
        E.due.end();
    }

    private static int at(FarBoard x, int... sides) {
        return x.walk(0, Edges.row(sides), sides.length);
    }

    private static void walking() {
        E.sentence("Terms 4", "it is LOST where a TILE without a number would be", () -> {
            FarBoard x = E.of(FREE);
            int last = x.count(1) - 1;
            E.is(-1, "one step beyond the rim", () -> x.walk(last, 0, 1));
            E.is(-1, "and back", () -> x.walk(last, 0, 2));
            E.is(-1, "and back from farther", () -> x.walk(last, Edges.row(0, 1, 1, 0), 4));
            E.is(last, "along the rim, if it stays within", () -> x.walk(last, Edges.row(2, 2), 2));
            E.is(last, "from home, just to the rim", () -> at(x, 2, 1, 2, 1, 2, 1, 2, 1, 2));
            E.is(-1, "one more", () -> at(x, 2, 1, 2, 1, 2, 1, 2, 1, 2, 1));
            // Round a corner of 4 where the rim is 3: six of eight steps are within, two are not.
            FarBoard y = E.of(ALL_CORNERS);
            E.is(true, "three steps", () -> at(y, 1, 2, 1) > 0);
            E.is(-1, "four steps", () -> at(y, 1, 2, 1, 2));
            E.is(-1, "eight steps, though they lead home", () -> at(y, 1, 2, 1, 2, 1, 2, 1, 2));
            E.is(0, "six steps round a corner of 3", () -> at(y, 0, 1, 0, 1, 0, 1));
        });
    }

    private static void walk() {
        E.sentence("Promise 16", "many of them, the first one the lowest figure of row to the base 8", () -> {
            FarBoard x = E.of(NEAREST);
            E.is(x.across(x.across(0, 2), 7), "2 7", () -> x.walk(0, 2 + 7 * 8, 2));
            E.is(x.across(0, 2), "2 alone", () -> x.walk(0, 2 + 7 * 8, 1));
            E.is(0, "none of them", () -> x.walk(0, 2 + 7 * 8, 0));
            E.is(456, "none of them, anywhere", () -> x.walk(456, -1, 0));
            // The twentieth figure is looked at, the twenty-first is not.
            long twentieth = 1L << 57;
            E.is(0, "19 times 0 and 1", () -> x.walk(x.across(x.across(0, 1), 0), twentieth, 20));
            E.is(x.across(0, 1), "19 of them", () -> x.walk(x.across(x.across(0, 1), 0), twentieth, 19));
            E.is(0, "the signs beyond the twentieth count for nothing", () -> x.walk(0, 0b1111L << 60, 20));
        });
        E.sentence("Promise 16", "where it leads; NONE: LOST", () -> {
            FarBoard x = E.of(NEAREST);
            E.is(-1, "from the rim", () -> x.walk(456, 0, 1));
            E.is(-1, "from the rim and back", () -> x.walk(456, 0, 20));
            E.is(456, "to and fro", () -> x.walk(456, Edges.inTurn(7, 7, 20), 20));
        });
        E.sentence("Promise 16", "many is not 0 to 20", () -> {
            FarBoard x = new FarBoard();
            for (int many : new int[] {-1, 21, 22, 64, LEAST, MOST}) {
                E.badArgument("walk of " + many, () -> x.walk(0, 0, many));
            }
            E.is(0, "20 can be", () -> x.walk(0, 0, 20));
            E.is(0, "0 can be", () -> x.walk(0, 0, 0));
        });
        E.sentence("Promise 16", "a SIDE that there isn't", () -> {
            for (String text : new String[] {FREE, "corners 2 2 2 2 2;", "corners 2 2 2 2 2 2 2;"}) {
                FarBoard x = E.of(text);
                int sides = x.count(0);
                for (int wrong = sides; wrong <= 7; wrong++) {
                    int side = wrong;
                    E.badArgument("side " + side, () -> x.walk(0, side, 1));
                    E.badArgument("side " + side + " behind others", () -> x.walk(0, Edges.row(0, 1, side), 3));
                    E.badArgument("side " + side + " at last", () -> x.walk(0, (long) side << 57, 20));
                    E.is(1, "side " + side + " behind the last", () -> x.walk(0, Edges.row(0, side), 1));
                    int rim = x.count(1) - 1;
                    E.badArgument("side " + side + " where it would be lost", () -> x.walk(rim, Edges.row(0, 0, side), 3));
                }
                E.is(sides, "the last side", () -> x.walk(0, sides - 1, 1));
                E.badArgument("a row below 0", () -> x.walk(0, -1, 1));
            }
            FarBoard eight = E.of(NEAREST);
            E.is(8, "side 7 of eight", () -> eight.walk(0, 7, 1));
        });
        E.sentence("Promise 16", "IllegalArgumentException (behind NoSuchElementException)", () -> {
            FarBoard x = new FarBoard();
            for (int tile : new int[] {-1, 1161, LEAST, MOST}) {
                E.noElement("no tile, and many", () -> x.walk(tile, 0, 21));
                E.noElement("no tile, and many below 0", () -> x.walk(tile, 0, -1));
                E.noElement("no tile, and no side", () -> x.walk(tile, 7, 1));
                E.noElement("no tile, and no step", () -> x.walk(tile, 0, 0));
            }
        });
    }

    private static void moves() {
        E.sentence("Terms 4", "THE MOVE of a TILE a takes HOME to a, and a TILE b to where THE NAME of b leads from a.", () -> {
            FarBoard x = E.of(FARTHEST);
            for (int i = 0; i < x.count(1); i += 7) {
                int tile = i;
                E.is(tile, "home by the move of " + tile, () -> x.move(tile, 0));
                E.is(tile, "home's move leaves " + tile, () -> x.move(0, tile));
            }
            E.is(at(x, 0, 2, 1), "0 2 and 1", () -> x.move(at(x, 0, 2), at(x, 1)));
            E.is(at(x, 1, 0, 2), "1 and 0 2", () -> x.move(at(x, 1), at(x, 0, 2)));
        });
        E.sentence("Promise 17", "NONE: LOST.", () -> {
            FarBoard x = E.of(FREE);
            int last = x.count(1) - 1;
            E.is(-1, "beyond the rim", () -> x.move(last, 1));
            E.is(-1, "beyond the rim by a long name", () -> x.move(1, last));
            E.is(true, "to the rim", () -> x.move(last - 1, 0) == last - 1);
            // 2 and the name 2 1 2 .. of the last: back home, and on within the rim.
            E.is(true, "within", () -> x.move(at(x, 2), last) > 0);
            E.is(8, "where it is then", () -> x.tile(x.move(at(x, 2), last), 0));
        });
        E.sentence("Promise 17", "THE MOVE of a TILE takes another one to", () -> {
            FarBoard x = E.of(FREE);
            E.noElement("no such tile", () -> x.move(1534, 0));
            E.noElement("no such other one", () -> x.move(0, 1534));
            E.noElement("no such tile", () -> x.move(-1, 0));
            E.noElement("no such other one", () -> x.move(0, -1));
        });
    }

    private static void orders() {
        E.sentence("Terms 4", "the least number of times (1 to 60) by which it takes HOME to HOME", () -> {
            FarBoard x = E.of(FARTHEST);
            E.is(1, "home", () -> x.order(0));
            for (int side = 0; side < 3; side++) {
                int tile = at(x, side);
                E.is(2, "a side", () -> x.order(tile));
            }
            for (int corner = 2; corner <= 9; corner++) {
                int due = corner;
                FarBoard y = E.of("corners " + corner + " 9 9;");
                E.is(due, "both sides of a corner of " + due, () -> y.order(at(y, 0, 1)));
            }
        });
        E.sentence("Terms 4", "none, if it gets LOST ahead of that, or none of 60 is", () -> {
            // Round corners of 4 and more the way leads beyond a rim of 3; round one of 3 just to it.
            FarBoard x = E.of(ALL_CORNERS);
            E.is(3, "a corner of 3", () -> x.order(at(x, 0, 1)));
            for (int side = 1; side < 8; side++) {
                int one = side;
                E.is(-1, "the corner behind " + one, () -> x.order(at(x, one, (one + 1) % 8)));
            }
            E.is(2, "there and back: 0 1 0", () -> x.order(at(x, 0, 1, 0)));
            E.is(-1, "a name as long as the rim, from which it goes on outward", () -> x.order(at(x, 7, 6, 5)));
            // A corner of 9 and a rim of 9.
            FarBoard y = E.of("corners 9 9 9;");
            E.is(9, "just to the rim", () -> y.order(at(y, 0, 1)));
            E.is(9, "a quarter more", () -> y.order(at(y, 0, 1, 0, 1)));
            E.is(3, "three of them", () -> y.order(at(y, 0, 1, 0, 1, 0, 1)));
            // Sides that never meet: farther each time.
            FarBoard z = E.of(FREE);
            E.is(-1, "0 1", () -> z.order(at(z, 0, 1)));
            E.is(2, "0 1 0", () -> z.order(at(z, 0, 1, 0)));
        });
        E.sentence("Promise 18", "NONE: none.", () -> {
            FarBoard x = new FarBoard();
            E.is(-1, "0 2", () -> x.order(7));
            E.is(-1, "the last", () -> x.order(1160));
            E.noElement("no such tile", () -> x.order(1161));
            E.noElement("no such tile", () -> x.order(-1));
        });
    }

    private static void backAndApart() {
        E.sentence("Terms 4", "where THE NAME of a, read from its end, leads from HOME", () -> {
            for (String text : new String[] {FARTHEST, FREE, ALL_CORNERS, "corners 2 3 4 4;"}) {
                FarBoard x = E.of(text);
                E.is(0, "back of home", () -> x.back(0));
                for (int i = 0; i < x.count(1); i++) {
                    int tile = i;
                    int back = x.back(tile);
                    E.due.same("it is never lost", back == -1, false);
                    E.is(x.tile(tile, 0), "its ring", () -> x.tile(back, 0));
                    E.is(tile, "back of that", () -> x.back(back));
                }
            }
        });
        E.sentence("Promise 19", "BACK.", () -> {
            FarBoard x = E.of(FREE);
            E.is(1533, "2 1 2 1 2 1 2 1 2", () -> x.back(1533));
            E.is(at(x, 1, 0), "0 1", () -> x.back(at(x, 0, 1)));
            E.noElement("no such tile", () -> x.back(1534));
            E.noElement("no such tile", () -> x.back(-1));
        });
        E.sentence("Terms 4", "RING of the TILE where THE NAME of b leads from BACK of a; LOST, if so", () -> {
            FarBoard x = E.of(FREE);
            int last = x.count(1) - 1;
            E.is(0, "a tile and itself at the rim", () -> x.apart(last, last));
            E.is(9, "home and the rim", () -> x.apart(0, last));
            E.is(9, "the rim and home", () -> x.apart(last, 0));
            E.is(1, "0 and 0 1", () -> x.apart(at(x, 0), at(x, 0, 1)));
            E.is(2, "1 and 2", () -> x.apart(at(x, 1), at(x, 2)));
            int eight = x.walk(last, 2, 1);
            E.is(9, "just as far as the rim is", () -> x.apart(at(x, 0), eight));
            E.is(-1, "one farther", () -> x.apart(at(x, 0), last));
        });
        E.sentence("Promise 20", "NONE: LOST.", () -> {
            FarBoard x = E.of(NEAREST);
            E.is(3, "0 and 2 3", () -> x.apart(1, at(x, 2, 3)));
            E.is(-1, "0 1 and 2 3, where the rim is 3", () -> x.apart(at(x, 0, 1), at(x, 2, 3)));
            E.noElement("no such tile", () -> x.apart(457, 0));
            E.noElement("no such other one", () -> x.apart(0, 457));
            E.noElement("no such tile", () -> x.apart(-1, 0));
            E.noElement("no such other one, where it would be lost", () -> x.apart(456, -1));
        });
    }

    private static void sides(String text, int... due) {
        FarBoard x = E.of(text);
        int most = 0;
        for (int i = 0; i < due.length; i++) {
            int side = i;
            E.is(due[i], text + " side " + i, () -> x.side(side));
            most = Math.max(most, due[i]);
        }
        E.due.same(text + " classes", x.count(4), most + 1);
    }

    private static void classes() {
        E.sentence("Terms 4", "SIDES of a CORNER that is odd (not 0) are of one CLASS, and so on", () -> {
            sides("corners 2 2 2 4;", 0, 1, 2, 3);
            sides("corners 0 0 0;", 0, 1, 2);
            sides("corners 3 4 6 8;", 0, 0, 1, 2);
            sides("corners 4 5 0 2 2;", 0, 1, 1, 2, 3);
            sides("corners 3 5 2 7;", 0, 0, 0, 0);
            sides("corners 3 5 7 9;", 0, 0, 0, 0);
            sides("corners 9 7 8;", 0, 0, 0);
        });
        E.sentence("Terms 4", "CLASSES by their least SIDES", () -> {
            // The last corner is odd: the last side is of the class of side 0, and of those that go on from it.
            sides("corners 4 4 3;", 0, 1, 0);
            sides("corners 4 3 4 3;", 0, 1, 1, 0);
            sides("corners 2 2 2 2 2 2 2 9;", 0, 1, 2, 3, 4, 5, 6, 0);
            sides("corners 2 2 3 2 2 5 7 9;", 0, 1, 2, 2, 3, 0, 0, 0);
            sides("corners 3 2 2 2 2 2 2 9;", 0, 0, 1, 2, 3, 4, 5, 0);
            sides("corners 0 3 0 0 5 7;", 0, 1, 1, 2, 0, 0);
        });
        E.sentence("Terms 4", "bit k is set, if THE NAME has SIDES of CLASS k an odd number of times", () -> {
            FarBoard x = E.of("corners 0 0 3;");
            E.is(0, "home", () -> x.tile(0, 2));
            E.is(1, "0", () -> x.tile(at(x, 0), 2));
            E.is(1, "2, which is of the class of 0", () -> x.tile(at(x, 2), 2));
            E.is(0, "0 2", () -> x.tile(at(x, 0, 2), 2));
            E.is(1, "0 1 0 1 0", () -> x.tile(at(x, 0, 1, 0, 1, 0), 2));
            E.is(3, "0 1 0 1 0 1", () -> x.tile(at(x, 0, 1, 0, 1, 0, 1), 2));
            FarBoard y = E.of(NEAREST);
            E.is(128, "7", () -> y.tile(at(y, 7), 2));
            E.is(128 + 64 + 1, "7 6 0", () -> y.tile(at(y, 7, 6, 0), 2));
        });
        E.sentence("Promise 21", "NoSuchElementException: no such SIDE.", () -> {
            FarBoard x = E.of(NEAREST);
            E.is(7, "side 7", () -> x.side(7));
            for (int side : new int[] {-1, 8, LEAST, MOST}) {
                E.noElement("side " + side, () -> x.side(side));
            }
            E.change(x, FREE);
            E.is(2, "side 2 of three", () -> x.side(2));
            for (int side : new int[] {-1, 3, 4, 7}) {
                E.noElement("side " + side + " of three", () -> x.side(side));
            }
        });
    }
}
