/** Each promise by itself: ordinary inputs, the edges that the document names, wrong inputs. */
public final class PromisesTest {
    private static final Due DUE = new Due();
    private static final String FIVE = "corners 2 2 2 2 2;";
    private static final String THREE = "corners 2 3 7;";
    private static final String FREE = "corners 0 0 0;";

    public static void main(String[] args) {
        newObject();
        feed();
        boardAndFault();
        faultsOfText();
        faultKeepsAll();
        boardBeginsAnew();
        countAndCorner();
        tile();
        acrossAndName();
        waysAndRing();
        growth();
        walks();
        homeAndFar();
        walk();
        moves();
        sideClasses();
        closed();
        first();
        steps();
        undoAndRedo();
        latestThousand();
        imageAndRestore();
        DUE.end();
    }

    private static FarBoard of(String text) {
        FarBoard board = new FarBoard();
        DUE.is(0, "board " + text, () -> Due.board(board, text));
        return board;
    }

    private static void newObject() {
        FarBoard x = new FarBoard();
        int[] counts = {5, 1161, 6, 1, 5, 0, 0, 0, 0};
        for (int what = 0; what < counts.length; what++) {
            int asked = what;
            DUE.is(counts[what], "new: count " + what, () -> x.count(asked));
        }
        DUE.is(2, "new: corner 0", () -> x.corner(0));
        DUE.is(-1, "new: fault", x::fault);
        DUE.is(0, "new: ant 0", () -> x.ant(0));
        DUE.is(0, "new: ant 1", () -> x.ant(1));
        DUE.is(false, "new: restore", x::restore);
        DUE.is(-1, "NONE", () -> FarBoard.NONE);
    }

    private static void feed() {
        FarBoard x = new FarBoard();
        for (int many = 20; many <= 200; many += 20) {
            DUE.is(many, "feed to " + many, () -> x.feed(-1, 0, 1, Integer.MIN_VALUE, 5));
        }
        DUE.is(-1, "feed beyond 200", () -> x.feed(0, 0, 0, 0, 0));
        DUE.is(200, "the tape is full", () -> x.count(5));
        FarBoard y = new FarBoard();
        // 'corn' 'ers ' '3 4 ' '5;  ' '    ': the highest byte of each number comes first.
        DUE.is(20, "feed", () -> y.feed(0x636f726e, 0x65727320, 0x33203420, 0x353b2020, 0x20202020));
        DUE.is(0, "board of fed bytes", () -> y.board(20));
        DUE.is(4, "corner 1 of fed bytes", () -> y.corner(1));
    }

    private static void boardAndFault() {
        FarBoard x = new FarBoard();
        Due.feed(x, "corners 2 2 2 2;x");
        DUE.badArgument("board below 0", () -> x.board(-1));
        DUE.badArgument("board of more than the tape has", () -> x.board(21));
        DUE.is(20, "the tape stays", () -> x.count(5));
        DUE.is(-1, "no fault by that", x::fault);
        DUE.is(3, "board of the first bytes", () -> x.board(16));
        DUE.is(15, "its place", x::fault);
        DUE.is(0, "the tape is empty", () -> x.count(5));
        DUE.badArgument("board of an empty tape", () -> x.board(1));
        DUE.is(15, "the place stays", x::fault);
        DUE.is(1, "board of nothing", () -> x.board(0));
        DUE.is(0, "its place", x::fault);
        DUE.is(2, "two texts were refused", () -> x.count(6));
        DUE.is(0, "a board", () -> Due.board(x, "corners3 3\n3\n 3;ant7 0 7;  "));
        DUE.is(-1, "no fault", x::fault);
        DUE.is(3, "colours", () -> x.count(3));
        DUE.is(2, "refused texts stay", () -> x.count(6));
    }

    private static void fault(String text, int fault, int place) {
        FarBoard x = new FarBoard();
        DUE.is(fault, "fault of " + text, () -> Due.board(x, text));
        DUE.is(place, "place in " + text, x::fault);
        DUE.is(fault == 0 ? 0 : 1, "status by " + text, () -> x.count(6));
    }

    private static void faultsOfText() {
        fault("", 1, 0);
        fault("   ", 1, 3);
        fault("corner 2 3 7;", 1, 0);
        fault("cornersx 2 3 7;", 1, 0);
        fault("Corners 2 3 7;", 1, 0);
        fault(" 1234 corners", 1, 1);
        fault("corners", 1, 7);
        fault("corners 2 3;", 1, 11);
        fault("corners 2 3 7", 1, 13);
        fault("corners 2 3 7 ", 1, 14);
        fault("corners 2 3 7,", 1, 13);
        fault("corners 2 3 7\t;", 1, 13);
        fault("corners 2 3 7" + (char) 200 + ";", 1, 13);
        fault("corners 2 -3 7;", 1, 10);
        fault("corners 2 3 x 7;", 1, 12);
        fault("corners ant 2 3 7;", 1, 8);
        fault("corners 2 3 7;;", 1, 14);
        fault("corners 2 3 7;corners", 1, 14);
        fault("corners 2 3 7;1000", 1, 14);
        fault("corners 2 3 7;ants 1;", 1, 14);
        fault("corners 2 3 7;ant", 1, 17);
        fault("corners 2 3 7;ant;", 1, 17);
        fault("corners 2 3 7;ant 1", 1, 19);
        fault("corners 2 3 7;ant 1;1", 1, 20);
        fault("corners 2 3 7;ant 1;ant 1;", 1, 20);
        fault("corners 1 3 7;", 2, 8);
        fault("corners 10 3 7;", 2, 8);
        fault("corners 3 999 7;", 2, 10);
        fault("corners 3 0003 7;", 2, 10);
        fault("corners 3 99999999999 7;", 2, 10);
        fault("corners 2 2 2 2 2 2 2 2 2;", 2, 24);
        fault("corners 2 2 2 2 2 2 2 2 1", 2, 24);
        fault("corners 2 3 7;ant 8;", 2, 18);
        fault("corners 2 3 7;ant 0000;", 2, 18);
        fault("corners 2 3 7;ant 0 1 2 3 4 5 6 7 0;", 2, 34);
        fault("corners 2 3 6;", 3, 13);
        fault("corners 3 3 3;", 3, 13);
        fault("corners 2 4 4 ;", 3, 14);
        fault("corners 2 2 9;", 3, 13);
        fault("corners 2 2 0;", 3, 13);
        fault("corners 2 2 2 2;ant 8;", 3, 15);
        fault("corners 002 003 007;", 0, -1);
        fault("corners2 3 7;ant0;", 0, -1);
        fault("\n corners 2 2 2 00 ; ant 7 7 7 7 7 7 7 7 ;\n", 0, -1);
        fault("corners 2 2 2 2 2 2 2 2;", 0, -1);
        fault("corners 2 0 0;", 0, -1);
    }

    private static void faultKeepsAll() {
        FarBoard x = of("corners 2 3 7;ant 1 2;");
        x.steps(3);
        x.undo();
        x.image();
        int stands = x.ant(0);
        DUE.is(2, "a fault", () -> Due.board(x, "corners 3 3 3 3 1"));
        DUE.is(3, "sides stay", () -> x.count(0));
        DUE.is(7, "corners stay", () -> x.corner(2));
        DUE.is(2, "colours stay", () -> x.count(3));
        DUE.is(stands, "the ant stays", () -> x.ant(0));
        DUE.is(2, "its steps stay", () -> x.ant(2));
        DUE.is(1, "undone steps stay", () -> x.ant(3));
        DUE.is(true, "the image stays", x::restore);
        DUE.is(true, "redo", x::redo);
    }

    private static void boardBeginsAnew() {
        FarBoard x = of("corners 2 3 7;ant 1 2;");
        x.steps(5);
        x.undo();
        x.image();
        x.redo();
        x.redo();
        DUE.is(0, "another board", () -> Due.board(x, FIVE));
        DUE.is(0, "ant at home", () -> x.ant(0));
        DUE.is(0, "by side 0", () -> x.ant(1));
        DUE.is(0, "nothing to undo", () -> x.ant(2));
        DUE.is(0, "nothing to redo", () -> x.ant(3));
        DUE.is(1, "one colour", () -> x.count(3));
        DUE.is(0, "home is of colour 0", () -> x.tile(0, 3));
        DUE.is(false, "no image", x::restore);
        DUE.is(1, "status 2 stays", () -> x.count(8));
        DUE.is(1161, "tiles", () -> x.count(1));
        DUE.is(105, "growth", () -> x.growth(4));
        DUE.is(31, "closed", () -> x.closed(2, 0));
    }

    private static void countAndCorner() {
        FarBoard x = of("corners 2 3 2 0 5;ant 3 2 1;");
        DUE.is(5, "count 0", () -> x.count(0));
        DUE.is(3, "count 3", () -> x.count(3));
        DUE.is(3, "count 4: 0 4 / 1 2 / 3", () -> x.count(4));
        DUE.noElement("count -1", () -> x.count(-1));
        DUE.noElement("count 9", () -> x.count(9));
        DUE.is(0, "corner 3", () -> x.corner(3));
        DUE.is(5, "corner 4", () -> x.corner(4));
        DUE.noElement("corner 5", () -> x.corner(5));
        DUE.noElement("corner -1", () -> x.corner(-1));
    }

    private static void tile() {
        FarBoard x = of(THREE);
        int[][] due = {{0, 0, 0, 0, 3}, {1, 1, 1, 0, 3}, {1, 1, 1, 0, 3}, {1, 1, 1, 0, 3}, {2, 2, 0, 0, 3}};
        for (int tile = 0; tile < due.length; tile++) {
            for (int what = 0; what <= 4; what++) {
                int t = tile;
                int w = what;
                DUE.is(due[tile][what], "tile " + tile + " " + what, () -> x.tile(t, w));
            }
        }
        DUE.noElement("tile, what 5", () -> x.tile(0, 5));
        DUE.noElement("tile, what -1", () -> x.tile(0, -1));
        DUE.noElement("tile -1", () -> x.tile(-1, 0));
        DUE.noElement("tile 1853", () -> x.tile(1853, 0));
        DUE.is(23, "ring of the last tile", () -> x.tile(1852, 0));
        FarBoard y = of(FREE);
        DUE.is(1, "lesser", () -> y.tile(1533, 1));
        DUE.is(1, "numbered neighbours at the rim", () -> y.tile(1533, 4));
        DUE.is(5, "colour of sides 0, 2", () -> y.tile(5, 2));
    }

    private static void acrossAndName() {
        FarBoard x = of(FREE);
        DUE.is(4, "across 1 1", () -> x.across(1, 1));
        DUE.is(5, "across 1 2", () -> x.across(1, 2));
        DUE.is(6, "across 2 0: another one", () -> x.across(2, 0));
        DUE.is(0, "across 3 2", () -> x.across(3, 2));
        DUE.is(-1, "across at the rim", () -> x.across(1533, 0));
        DUE.noElement("across, side 3", () -> x.across(0, 3));
        DUE.noElement("across, side -1", () -> x.across(0, -1));
        DUE.noElement("across, tile 1534", () -> x.across(1534, 0));
        DUE.noElement("across, tile -1", () -> x.across(-1, 0));
        DUE.is(1, "name of the last but one", () -> x.name(1533, 7));
        DUE.is(2, "name of the last but one", () -> x.name(1533, 8));
        DUE.noElement("name beyond its end", () -> x.name(1533, 9));
        DUE.noElement("name -1", () -> x.name(1533, -1));
        DUE.noElement("name of home", () -> x.name(0, 0));
        DUE.noElement("name, no tile", () -> x.name(1534, 0));
        FarBoard y = of(THREE);
        // 0 1 and 1 0 are one tile (corner of 2), named by the first.
        DUE.is(4, "across 1 1", () -> y.across(1, 1));
        DUE.is(4, "across 2 0", () -> y.across(2, 0));
        DUE.is(0, "its name", () -> y.name(4, 0));
        DUE.is(1, "its name", () -> y.name(4, 1));
        // 1 2 1 and 2 1 2 are one (corner of 3).
        DUE.is(y.walk(0, 1 + 2 * 8 + 1 * 64, 3), "round the corner of 3", () -> y.walk(0, 2 + 1 * 8 + 2 * 64, 3));
    }

    private static void waysAndRing() {
        FarBoard x = of(THREE);
        DUE.is(1, "ways 0", () -> x.ways(0));
        DUE.is(2, "ways 4", () -> x.ways(4));
        DUE.is(1, "ways 5", () -> x.ways(5));
        DUE.noElement("ways -1", () -> x.ways(-1));
        DUE.noElement("ways 1853", () -> x.ways(1853));
        DUE.is(1, "ring 0", () -> x.ring(0));
        DUE.is(3, "ring 1", () -> x.ring(1));
        DUE.is(5, "ring 2", () -> x.ring(2));
        DUE.is(0, "ring 24", () -> x.ring(24));
        DUE.is(0, "ring far out", () -> x.ring(Integer.MAX_VALUE));
        DUE.noElement("ring -1", () -> x.ring(-1));
        int sum = 0;
        for (int ring = 0; ring <= 23; ring++) {
            sum += x.ring(ring);
        }
        DUE.same("rings together", sum, 1853);
    }

    private static void growth() {
        FarBoard x = of(FREE);
        DUE.is(1, "growth 0", () -> x.growth(0));
        for (int n = 1; n <= 49; n++) {
            int asked = n;
            long due = 3L << n - 1;
            DUE.is(due > 1_000_000_000_000_000L ? -1 : due, "growth " + n, () -> x.growth(asked));
        }
        DUE.is(-1, "growth 60", () -> x.growth(60));
        DUE.noElement("growth 61", () -> x.growth(61));
        DUE.noElement("growth -1", () -> x.growth(-1));
        FarBoard y = of(THREE);
        DUE.is(y.growth(59) > 0, "slow growth goes on to 60", () -> y.growth(60) > y.growth(59));
    }

    private static void walks() {
        FarBoard x = of(FREE);
        DUE.is(1, "walks 0 0", () -> x.walks(0, 0));
        DUE.is(0, "walks 0 1", () -> x.walks(0, 1));
        DUE.is(3, "walks 2 0", () -> x.walks(2, 0));
        DUE.is(5, "walks 3 1", () -> x.walks(3, 1));
        DUE.is(1, "walks 9 1533", () -> x.walks(9, 1533));
        DUE.is(1, "walks 2 4, after more", () -> x.walks(2, 4));
        DUE.is(-1, "walks 10 0", () -> x.walks(10, 0));
        DUE.is(-1, "walks 16 0", () -> x.walks(16, 0));
        DUE.badArgument("walks 17", () -> x.walks(17, 0));
        DUE.badArgument("walks -1", () -> x.walks(-1, 0));
        DUE.noElement("walks, no tile", () -> x.walks(2, 1534));
        DUE.noElement("walks, no tile", () -> x.walks(16, -1));
    }

    private static void homeAndFar() {
        FarBoard x = of(FREE);
        long[] home = {1, 0, 3, 0, 15, 0, 87};
        for (int n = 0; n < home.length; n++) {
            int asked = n;
            DUE.is(home[n], "home " + n, () -> x.home(asked));
        }
        DUE.badArgument("home 17", () -> x.home(17));
        DUE.badArgument("home -1", () -> x.home(-1));
        FarBoard y = of("corners 0 0 0 0 0 0 0 0;");
        DUE.is(3, "the rim", () -> y.count(2));
        // On a tree of d sides: d (5 d d - 6 d + 2).
        DUE.is(2192, "home 6, twice the rim", () -> y.home(6));
        DUE.is(-1, "home 7", () -> y.home(7));
        DUE.is(-1, "home 8", () -> y.home(8));
        // Of 9 walks of two steps, 3 end at home, 6 in ring 2: 12 / 9.
        DUE.is(4, "far 2 0", () -> x.far(2, 0));
        DUE.is(3, "far 2 1", () -> x.far(2, 1));
        DUE.is(0, "far 0 0", () -> x.far(0, 0));
        DUE.is(1, "far 0 1", () -> x.far(0, 1));
        DUE.is(-1, "far beyond the rim", () -> y.far(4, 0));
        DUE.is(-1, "far beyond the rim", () -> y.far(4, 1));
        DUE.noElement("far, what 2", () -> x.far(2, 2));
        DUE.noElement("far, what -1, ahead of n", () -> x.far(17, -1));
        DUE.badArgument("far 17", () -> x.far(17, 0));
        DUE.badArgument("far -1", () -> x.far(-1, 1));
    }

    private static void walk() {
        FarBoard x = of(FREE);
        DUE.is(5, "walk 0 2", () -> x.walk(0, 2 * 8, 2));
        DUE.is(7, "walk to and fro", () -> x.walk(7, 0, 20));
        DUE.is(9, "walk no step", () -> x.walk(9, 7, 0));
        DUE.is(1, "figures behind the last are not looked at", () -> x.walk(0, 7 * 8, 1));
        DUE.is(-1, "lost", () -> x.walk(1533, 0, 1));
        DUE.is(-1, "lost, though it would come back", () -> x.walk(1533, 0, 2));
        DUE.badArgument("side 3", () -> x.walk(0, 3, 1));
        DUE.badArgument("a side that there isn't, where it would be lost", () -> x.walk(1533, 7 * 8, 2));
        DUE.badArgument("many -1", () -> x.walk(0, 0, -1));
        DUE.badArgument("many 21", () -> x.walk(0, 0, 21));
        DUE.noElement("no tile, ahead of many", () -> x.walk(1534, 0, 21));
        DUE.noElement("no tile", () -> x.walk(-1, 0, 1));
        FarBoard y = of("corners 2 2 2 2 2 2 2 2;");
        DUE.is(y.across(0, 7), "a row below 0 has figures too", () -> y.walk(0, -1, 1));
    }

    private static void moves() {
        FarBoard x = of(THREE);
        DUE.is(5, "move of home", () -> x.move(0, 5));
        DUE.is(5, "move takes home to", () -> x.move(5, 0));
        DUE.is(0, "move 1 1", () -> x.move(1, 1));
        DUE.noElement("move, no tile", () -> x.move(1853, 0));
        DUE.noElement("move, no other", () -> x.move(0, -1));
        DUE.is(-1, "move lost", () -> x.move(1852, 1851));
        DUE.is(1, "order 0", () -> x.order(0));
        DUE.is(2, "order 1", () -> x.order(1));
        DUE.is(7, "order of 0 2", () -> x.order(5));
        DUE.is(3, "order of 1 2", () -> x.order(6));
        DUE.is(-1, "order of the last", () -> x.order(1852));
        DUE.noElement("order, no tile", () -> x.order(1853));
        DUE.is(7, "back of 0 2", () -> x.back(5));
        DUE.is(5, "and again", () -> x.back(7));
        DUE.is(0, "back 0", () -> x.back(0));
        DUE.noElement("back, no tile", () -> x.back(-1));
        DUE.is(2, "apart 1 3", () -> x.apart(1, 3));
        DUE.is(0, "apart of one", () -> x.apart(1700, 1700));
        DUE.is(23, "apart of home", () -> x.apart(0, 1852));
        DUE.is(-1, "apart lost", () -> x.apart(1852, 1600));
        DUE.noElement("apart, no tile", () -> x.apart(1853, 0));
        DUE.noElement("apart, no other", () -> x.apart(0, 1853));
    }

    private static void sideClasses() {
        FarBoard x = of("corners 2 3 2 0 5;");
        int[] due = {0, 1, 1, 2, 0};
        for (int side = 0; side < 5; side++) {
            int asked = side;
            DUE.is(due[side], "side " + side, () -> x.side(asked));
        }
        DUE.noElement("side 5", () -> x.side(5));
        DUE.noElement("side -1", () -> x.side(-1));
        FarBoard y = of("corners 3 5 7;");
        DUE.is(1, "all of one class", () -> y.count(4));
        FarBoard z = of("corners 3 5 7 4;");
        DUE.is(1, "all of one class but for a corner", () -> z.count(4));
        FarBoard w = of("corners 4 4 3;");
        DUE.is(2, "classes 0 1 0", () -> w.count(4));
        DUE.is(1, "classes 0 1 0", () -> w.side(1));
        DUE.is(0, "classes 0 1 0", () -> w.side(2));
    }

    private static void closed() {
        FarBoard x = of("corners 2 2 2 2 2 2;");
        int[][] due = {{1, 0, 1, -1, 6}, {63, 0, 63, -1, 126}, {228, 0, 38, -1, 1308}, {24114, 66, 2069, 2, 121590},
            {-2, -2, -2, -2, -2}, {-2, -2, -2, -2, -2}};
        for (int n = 1; n <= 6; n++) {
            for (int what = 0; what <= 4; what++) {
                int size = n;
                int asked = what;
                DUE.is(due[n - 1][what], "closed " + n + " " + what, () -> x.closed(size, asked));
            }
        }
        DUE.noElement("closed, what 5", () -> x.closed(1, 5));
        DUE.noElement("closed, what -1, ahead of n", () -> x.closed(0, -1));
        DUE.badArgument("closed 0", () -> x.closed(0, 0));
        DUE.badArgument("closed 7", () -> x.closed(7, 4));
        FarBoard y = of(FREE);
        DUE.is(1, "smooth of two tiles", () -> y.closed(2, 1));
        DUE.is(-1, "corners of 0: no handles", () -> y.closed(2, 3));
        // Of all boards those whose tries are nearest to 300,000, below it and above it.
        FarBoard v = of("corners 9 7 0 7 0 8 2 2;");
        DUE.is(299_990, "not yet spent", () -> v.closed(4, 4));
        FarBoard w = of("corners 5 6 5 4 2 4 2 2;");
        DUE.is(-2, "just spent", () -> w.closed(4, 4));
        FarBoard z = of("corners 2 2 2 2 2;");
        DUE.is(30, "smooth ones", () -> z.closed(4, 1));
        DUE.is(-1, "not of two sorts: no handles", () -> z.closed(4, 3));
    }

    private static void first() {
        FarBoard x = of("corners 2 2 2 2 2 2;");
        int[] rows = {1, 0, 3, 2};
        for (int tile = 0; tile < 4; tile++) {
            int asked = tile;
            DUE.is(rows[tile], "first 4 0 " + tile, () -> x.first(4, 0, asked));
        }
        DUE.noElement("first, none", () -> x.first(2, 0, 0));
        DUE.noElement("first, spent", () -> x.first(6, 0, 0));
        DUE.noElement("first, side 6", () -> x.first(4, 6, 0));
        DUE.noElement("first, side -1", () -> x.first(4, -1, 0));
        DUE.noElement("first, tile 4", () -> x.first(4, 0, 4));
        DUE.noElement("first, tile -1", () -> x.first(4, 0, -1));
        DUE.badArgument("first 7, ahead", () -> x.first(7, 9, 9));
        DUE.badArgument("first 0, ahead", () -> x.first(0, -1, 0));
        FarBoard y = of(FREE);
        DUE.is(1, "first 2 2 0", () -> y.first(2, 2, 0));
        DUE.is(0, "first 2 2 1", () -> y.first(2, 2, 1));
    }

    private static void steps() {
        FarBoard x = of("corners 0 0 0;ant 1 5;");
        DUE.is(0, "steps 0", () -> x.steps(0));
        DUE.is(1, "steps 1", () -> x.steps(1));
        DUE.is(2, "by side 1", () -> x.ant(0));
        DUE.is(1, "side", () -> x.ant(1));
        DUE.is(1, "home is painted", () -> x.tile(0, 3));
        DUE.is(8, "till the rim", () -> x.steps(400));
        DUE.is(9, "it is there", () -> x.tile(x.ant(0), 0));
        DUE.is(0, "what it stands on is not painted", () -> x.tile(x.ant(0), 3));
        DUE.is(1, "a refused call", () -> x.count(7));
        DUE.is(0, "steps 0 is not refused", () -> x.steps(0));
        DUE.is(0, "none can be", () -> x.steps(1));
        DUE.is(2, "two refused calls", () -> x.count(7));
        DUE.is(9, "nine to undo", () -> x.ant(2));
        DUE.badArgument("steps -1", () -> x.steps(-1));
        DUE.badArgument("steps 401", () -> x.steps(401));
        DUE.is(2, "those are not counted", () -> x.count(7));
        DUE.noElement("ant 4", () -> x.ant(4));
        DUE.noElement("ant -1", () -> x.ant(-1));
        // Turn 7 of three sides is 1; the second colour turns by 0, the third colour is painted 0.
        FarBoard y = of("corners 2 3 7;ant 7 0;");
        y.steps(1);
        DUE.is(1, "7 MOD 3", () -> y.ant(1));
        y.steps(1);
        DUE.is(2, "and again", () -> y.ant(1));
    }

    private static void undoAndRedo() {
        FarBoard x = of("corners 2 2 2 2 2;ant 1 0 3;");
        DUE.is(false, "nothing to undo", x::undo);
        DUE.is(false, "nothing to redo", x::redo);
        DUE.is(2, "two refused", () -> x.count(8));
        x.steps(4);
        int place = x.ant(0);
        int side = x.ant(1);
        for (int i = 0; i < 4; i++) {
            DUE.is(true, "undo", x::undo);
        }
        DUE.is(0, "at home again", () -> x.ant(0));
        DUE.is(0, "by side 0", () -> x.ant(1));
        DUE.is(0, "unpainted", () -> x.tile(0, 3));
        DUE.is(0, "none to undo", () -> x.ant(2));
        DUE.is(4, "four to redo", () -> x.ant(3));
        DUE.is(false, "nothing to undo", x::undo);
        DUE.is(0, "steps 0 makes no step", () -> x.steps(0));
        DUE.is(4, "still four to redo", () -> x.ant(3));
        for (int i = 0; i < 4; i++) {
            DUE.is(true, "redo", x::redo);
        }
        DUE.is(place, "where it was", () -> x.ant(0));
        DUE.is(side, "as it came", () -> x.ant(1));
        x.undo();
        x.steps(1);
        DUE.is(0, "a step ends redoing", () -> x.ant(3));
        DUE.is(false, "nothing to redo", x::redo);
        DUE.is(4, "four refused", () -> x.count(8));
        DUE.is(4, "four to undo", () -> x.ant(2));
    }

    private static void latestThousand() {
        // One colour that turns by 0: to and fro for ever.
        FarBoard x = of("corners 2 2 2 2 2;");
        for (int i = 0; i < 3; i++) {
            x.steps(400);
        }
        DUE.is(1000, "the latest 1000", () -> x.ant(2));
        for (int i = 0; i < 200; i++) {
            x.undo();
        }
        DUE.is(800, "200 undone", () -> x.ant(2));
        DUE.is(200, "200 to redo", () -> x.ant(3));
        x.redo();
        DUE.is(801, "one done again", () -> x.ant(2));
        x.steps(1);
        DUE.is(802, "one more", () -> x.ant(2));
        x.steps(400);
        DUE.is(1000, "no more than 1000", () -> x.ant(2));
    }

    private static void imageAndRestore() {
        FarBoard x = of("corners 2 3 7;ant 1 2 1;");
        DUE.is(false, "no image", x::restore);
        x.steps(6);
        x.undo();
        x.image();
        int place = x.ant(0);
        int side = x.ant(1);
        int paint = x.tile(place, 3);
        x.steps(20);
        x.undo();
        for (int again = 0; again < 2; again++) {
            DUE.is(true, "restore", x::restore);
            DUE.is(place, "its tile", () -> x.ant(0));
            DUE.is(side, "its side", () -> x.ant(1));
            DUE.is(paint, "the paint", () -> x.tile(place, 3));
            DUE.is(5, "steps to undo", () -> x.ant(2));
            DUE.is(1, "steps to redo", () -> x.ant(3));
            x.redo();
            x.steps(3);
        }
        x.image();
        x.undo();
        x.restore();
        DUE.is(9, "the image in place of the other", () -> x.ant(2));
        DUE.is(0, "status is no part of it", () -> x.count(8));
        x.redo();
        x.restore();
        DUE.is(1, "status is no part of it", () -> x.count(8));
    }
}
