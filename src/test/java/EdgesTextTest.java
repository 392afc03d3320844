/** Sentences that name a boundary: texts and boards (Terms 1, Promises 1 to 6). */
public final class EdgesTextTest {
    private static final Edges E = new Edges();
    private static final int LEAST = Integer.MIN_VALUE;
    private static final int MOST = Integer.MAX_VALUE;

    public static void main(String[] args) {
        boards();
        calls();
        ants();
        tokens();
        faults();
        newObject();
        feed();
        board();
        boardThatCantBe();
        fault();
        countAndCorner();
        E.due.end();
    }

    /** The fault of a text, its place, and what a fault counts. */
    private static void fault(String text, int fault, int place) {
        FarBoard x = new FarBoard();
        E.is(fault, "fault of '" + text + "'", () -> Due.board(x, text));
        E.is(place, "place in '" + text + "'", x::fault);
        E.is(fault == 0 ? 0 : 1, "status by '" + text + "'", () -> x.count(6));
    }

    private static void faultless(String... texts) {
        for (String text : texts) {
            fault(text, 0, -1);
        }
    }

    private static void boards() {
        E.sentence("Terms 1", "TILES of p SIDES 0 .. p less 1 (3 to 8)", () -> {
            fault("corners 2 2;", 1, 11);
            fault("corners 9 9;", 1, 11);
            FarBoard three = E.of("corners 3 3 4;");
            E.is(3, "three sides", () -> three.count(0));
            FarBoard eight = E.of("corners 3 3 4 2 2 2 2 9;");
            E.is(8, "eight sides", () -> eight.count(0));
            fault("corners 3 3 4 2 2 2 2 9 9;", 2, 24);
        });
        E.sentence("Terms 1", "CORNER i lies between SIDES i and i and 1", () -> {
            FarBoard x = E.of("corners 3 2 4 5;");
            E.is(x.walk(0, Edges.row(1, 2), 2), "1 2 and 2 1", () -> x.walk(0, Edges.row(2, 1), 2));
            E.is(false, "0 1 and 1 0 are one", () -> x.walk(0, Edges.row(0, 1), 2) == x.walk(0, Edges.row(1, 0), 2));
            E.is(2, "corner 1", () -> x.corner(1));
        });
        E.sentence("Terms 1", "(the last one between the last SIDE and SIDE 0)", () -> {
            for (String text : new String[] {"corners 7 3 2;", "corners 3 4 5 2;", "corners 3 3 3 3 3 3 3 2;"}) {
                FarBoard x = E.of(text);
                int last = x.count(0) - 1;
                E.is(x.walk(0, Edges.row(last, 0), 2), "last and first", () -> x.walk(0, Edges.row(0, last), 2));
                E.is(false, "first and second are one",
                        () -> x.walk(0, Edges.row(0, 1), 2) == x.walk(0, Edges.row(1, 0), 2));
            }
        });
        E.sentence("Terms 1", "2 to 9 (half of how many TILES meet there)", () -> {
            for (int corner = 2; corner <= 9; corner++) {
                FarBoard x = E.of("corners " + corner + " 9 9;");
                for (int many = 1; many <= 2 * corner; many++) {
                    int steps = many;
                    E.is(steps == 2 * corner, "home by " + steps + " round " + corner,
                            () -> x.walk(0, Edges.inTurn(0, 1, steps), steps) == 0);
                }
            }
        });
        E.sentence("Terms 1", "0 (none: both SIDES never meet)", () -> {
            FarBoard x = E.of("corners 0 3 3;");
            int rim = x.count(2);
            for (int many = 1; many <= rim; many++) {
                int steps = many;
                int one = x.walk(0, Edges.inTurn(0, 1, steps), steps);
                int other = x.walk(0, Edges.inTurn(1, 0, steps), steps);
                E.is(steps, "ring of one", () -> x.tile(one, 0));
                E.is(false, "both are one", () -> one == other);
                E.is(1L, "ways", () -> x.ways(one));
            }
            E.is(-1, "beyond the rim", () -> x.walk(0, Edges.inTurn(0, 1, rim + 1), rim + 1));
        });
        E.sentence("Terms 1", "A BOARD is so only if 1 by each CORNER (0 by one that is 0), together, is less than p less 2.",
                () -> {
            // Just p less 2.
            fault("corners 3 3 3;", 3, 13);
            fault("corners 2 4 4;", 3, 13);
            fault("corners 6 2 3;", 3, 13);
            fault("corners 2 0 2;", 3, 13);
            fault("corners 2 2 2 2;", 3, 15);
            // More.
            fault("corners 2 2 2;", 3, 13);
            fault("corners 5 3 2;", 3, 13);
            fault("corners 2 2 9;", 3, 13);
            // Just less, of all that are 41 by 42 the nearest; and without any.
            faultless("corners 2 3 7;", "corners 7 2 3;", "corners 2 4 5;", "corners 3 3 4;", "corners 2 3 0;");
            faultless("corners 2 9 3;", "corners 2 2 2 3;", "corners 2 2 0 2;", "corners 2 2 2 2 2;");
            faultless("corners 0 0 0;", "corners 0 0 0 0 0 0 0 0;", "corners 2 2 2 2 2 2 2 2;");
        });
        E.sentence("Terms 1", "At first: five CORNERS of 2.", () -> {
            FarBoard x = new FarBoard();
            for (int i = 0; i < 5; i++) {
                int corner = i;
                E.is(2, "corner " + i, () -> x.corner(corner));
            }
            E.noElement("corner 5", () -> x.corner(5));
        });
    }

    private static void calls() {
        E.sentence("Terms 1", "An object is used for at most 512 calls after it has been made", () -> {
            FarBoard x = new FarBoard();
            for (int call = 1; call < 512; call++) {
                x.redo();
            }
            E.is(511, "the 512th", () -> x.count(8));
            FarBoard y = new FarBoard();
            for (int call = 1; call < 511; call += 2) {
                y.feed(0x636f726e, 0x65727332, 0x20332037, 0x3b202020, 0x20202020);
                y.board(13);
            }
            E.is(1853, "the 511th", () -> y.count(1));
            E.is(23, "the 512th", () -> y.tile(1852, 0));
        });
    }

    private static void ants() {
        E.sentence("Terms 1", "COLOURS 0 .. (1 to 8; one at first)", () -> {
            E.is(1, "at first", () -> new FarBoard().count(3));
            fault("corners 3 3 4;ant;", 1, 17);
            FarBoard one = E.of("corners 3 3 4;ant 5;");
            E.is(1, "one", () -> one.count(3));
            FarBoard eight = E.of("corners 3 3 4;ant 0 0 0 0 0 0 0 0;");
            E.is(8, "eight", () -> eight.count(3));
            fault("corners 3 3 4;ant 0 0 0 0 0 0 0 0 0;", 2, 34);
            E.change(eight, "corners 3 3 4;");
            E.is(1, "one again, where the text tells none", () -> eight.count(3));
        });
        E.sentence("Terms 1", "a TURN (0 to 7; 0 at first) for each", () -> {
            faultless("corners 3 3 4;ant 0;", "corners 3 3 4;ant 7;", "corners 3 3 4;ant 7 0 7 0 7 0 7 0;");
            fault("corners 3 3 4;ant 8;", 2, 18);
            FarBoard x = new FarBoard();
            E.is(1, "a step", () -> x.steps(1));
            E.is(0, "without a turn", () -> x.ant(1));
            // Eight sides, so that each turn leads elsewhere; each tile's colour is 0 when the ant is there.
            FarBoard y = E.of("corners 0 0 0 0 0 0 0 0;ant 7;");
            E.is(1, "a step", () -> y.steps(1));
            E.is(7, "a turn of 7", () -> y.ant(1));
            E.change(y, "corners 0 0 0 0 0 0 0 0;");
            E.is(1, "a step", () -> y.steps(1));
            E.is(0, "no turn again, where the text tells none", () -> y.ant(1));
        });
        E.sentence("Terms 1", "['ant' TURN TURN* ';']", () -> {
            faultless("corners 3 3 4;", "corners 3 3 4;ant 1;", "corners 3 3 4;ant 1 2;");
            fault("corners 3 3 4;ant 1;ant 1;", 1, 20);
        });
    }

    private static void tokens() {
        E.sentence("Terms 1", "A TEXT of at most 200 bytes tells a BOARD.", () -> {
            StringBuilder text = new StringBuilder("corners 3 3 4");
            while (text.length() < 199) {
                text.append(text.length() % 7 == 0 ? '\n' : ' ');
            }
            FarBoard x = new FarBoard();
            Due.feed(x, text + ";");
            E.is(200, "all come", () -> x.count(5));
            E.is(0, "the 200th byte is the sign ;", () -> x.board(200));
            E.is(3, "sides", () -> x.count(0));
            Due.feed(x, text + ";");
            E.is(1, "199 of them end too soon", () -> x.board(199));
            E.is(199, "where", x::fault);
        });
        E.sentence("Terms 1", "words (a .. z, the longest row)", () -> {
            fault("cornersant 3 3 4;", 1, 0);
            fault("corner 3 3 4;", 1, 0);
            // Each letter counts.
            for (int i = 0; i < 7; i++) {
                fault("corners".substring(0, i) + 'x' + "corners".substring(i + 1) + " 3 3 4;", 1, 0);
            }
            for (String other : new String[] {"bnt", "amt", "anu", "an", "x", "corners"}) {
                fault("corners 3 3 4;" + other + " 1;", 1, 14);
            }
            // A letter ends no word; another sign does: it is the next token then.
            for (char letter : new char[] {'a', 'm', 'z'}) {
                fault("corners 3 3 4;ant" + letter + " 1;", 1, 14);
            }
            for (char sign : new char[] {'`', '{', 'A', 'Z', '_', (char) 225}) {
                fault("corners 3 3 4;ant" + sign + " 1;", 1, 17);
            }
            faultless("corners3 3 4;ant1;");
        });
        E.sentence("Terms 1", "NUMBERS (1 to 3 digits)", () -> {
            faultless("corners 3 03 004;ant 7 07 007;", "corners 0 00 000;");
            fault("corners 0003 3 4;", 2, 8);
            for (char sign : new char[] {'/', ':', '-', '+', '.'}) {
                fault("corners 3 3 4" + sign + ";", 1, 13);
            }
            faultless("corners 9 9 9;", "corners 0 9 0;");
        });
        E.sentence("Terms 1", "the sign ;", () -> {
            for (char sign : new char[] {',', ':', '<', '.', (char) 187}) {
                fault("corners 3 3 4" + sign, 1, 13);
            }
            fault("corners 3 3 4;;", 1, 14);
        });
        E.sentence("Terms 1", "blanks (32, 10) between them, which count for nothing", () -> {
            faultless("\n  corners\n3 3\n\n4 ;\n ant 1\n ; \n", "corners3 3 4;ant1;", "corners 3 3 4;    ");
            for (int other : new int[] {0, 9, 11, 13, 31, 33, 127, 160}) {
                fault("corners 3 3 4" + (char) other + ";", 1, 13);
                fault((char) other + "corners 3 3 4;", 1, 0);
            }
            // But they end a number: 3 4 are two, 34 is one.
            faultless("corners 3 3 4;");
            fault("corners 3 34;", 2, 10);
        });
    }

    private static void faults() {
        E.sentence("Terms 1", "BOARD: 'corners' NUMBER NUMBER NUMBER NUMBER* ';'", () -> {
            fault("corners;", 1, 7);
            fault("corners 9;", 1, 9);
            fault("corners 9 9;", 1, 11);
            faultless("corners 9 9 9;", "corners 9 9 9 9;", "corners 9 9 9 9 9 9 9 9;");
            fault("9 9 9 corners;", 1, 0);
        });
        E.sentence("Terms 1", "FAULTS, the first along the text", () -> {
            fault("corners 1 3 x;", 2, 8);
            fault("corners x 1 3;", 1, 8);
            fault("corners 2 2 2 2;ant 8;", 3, 15);
            fault("corners 2 2 10 2;", 2, 12);
            fault("corners 3 3 4;ant 8 x", 2, 18);
            fault("corners 3 3 4;ant x 8", 1, 18);
        });
        E.sentence("Terms 1", "at a TOKEN's first byte", () -> {
            fault("  cornerss 3", 1, 2);
            fault("corners 3  12345 4;", 2, 11);
            fault("corners 3 3 4;  antant 1;", 1, 16);
            fault("corners 3 3 4;ant 100;", 2, 18);
            fault("corners 3 3 4;ant 1;\n\n123", 1, 22);
        });
        E.sentence("Terms 1", "of one TOKEN the least", () -> {
            // A sign ; behind too few corners that make no board either; numbers that can't stand there, too much.
            fault("corners 2 2;", 1, 11);
            fault("corners;", 1, 7);
            fault("1000", 1, 0);
            fault("corners 3 3 4;9999;", 1, 14);
            fault("corners 3 3 4;ant 1;9999", 1, 20);
        });
        E.sentence("Terms 1", "1 a TOKEN that can't stand there", () -> {
            fault(";", 1, 0);
            fault("3 3 4;", 1, 0);
            fault("ant 1;", 1, 0);
            fault("corners;", 1, 7);
            fault("corners corners 3 3 4;", 1, 8);
            fault("corners 3 3;", 1, 11);
            fault("corners 3 3 ant", 1, 12);
            fault("corners 3 3 4 ant 1;", 1, 14);
            fault("corners 3 3 4;;", 1, 14);
            fault("corners 3 3 4;1;", 1, 14);
            fault("corners 3 3 4;corners", 1, 14);
            fault("corners 3 3 4;ant;", 1, 17);
            fault("corners 3 3 4;ant ant 1;", 1, 18);
            fault("corners 3 3 4;ant 1 ant", 1, 20);
            fault("corners 3 3 4;ant 1;;", 1, 20);
            fault("corners 3 3 4;ant 1;1", 1, 20);
            fault("corners 3 3 4;ant 1;ant", 1, 20);
            // Behind eight, too, a word is none that can stand there.
            fault("corners 2 2 2 2 2 2 2 2 x", 1, 24);
            fault("corners 3 3 4;ant 0 0 0 0 0 0 0 0 x", 1, 34);
        });
        E.sentence("Terms 1", "or is none", () -> {
            fault("?", 1, 0);
            fault("corners ?", 1, 8);
            fault("corners 3 3 4 ?", 1, 14);
            fault("corners 3 3 4;?", 1, 14);
            fault("corners 3 3 4;ant ?", 1, 18);
            fault("corners 3 3 4;ant 1 ?", 1, 20);
            fault("corners 3 3 4;ant 1; " + (char) 255, 1, 21);
        });
        E.sentence("Terms 1", "(the text's length where it ends too soon)", () -> {
            fault("", 1, 0);
            fault("\n \n", 1, 3);
            fault("corners", 1, 7);
            fault("corners 3", 1, 9);
            fault("corners 3 3 4", 1, 13);
            fault("corners 3 3 4  \n", 1, 16);
            fault("corners 2 2 2 2 2 2 2 2", 1, 23);
            fault("corners 3 3 4;ant", 1, 17);
            fault("corners 3 3 4;ant 1 1", 1, 21);
            fault("corners 3 3 4;ant 0 0 0 0 0 0 0 0 ", 1, 34);
            FarBoard x = new FarBoard();
            Due.feed(x, "corners 3 3 4;ant 1;");
            E.is(1, "what comes behind is no part of the text", () -> x.board(12));
            E.is(12, "its length", x::fault);
        });
        E.sentence("Terms 1", "2 one that can, but is too much: a NUMBER of 4 digits or more", () -> {
            fault("corners 0002 3 7;", 2, 8);
            fault("corners 2 3 12345678901234567890;", 2, 12);
            // 2 to the power of 32, and 2 more; to the power of 64, and 3 more.
            fault("corners 4294967298 3 7;", 2, 8);
            fault("corners 2 18446744073709551619 7;", 2, 10);
            fault("corners 3 3 4;ant 0000;", 2, 18);
            fault("corners 3 3 4;ant 1 4294967296;", 2, 20);
        });
        E.sentence("Terms 1", "a CORNER that is 1 or above 9", () -> {
            for (String much : new String[] {"1", "01", "001", "10", "010", "99", "100", "999"}) {
                fault("corners 3 " + much + " 9;", 2, 10);
                fault("corners 9 9 9 9 9 9 9 " + much + ";", 2, 22);
            }
            faultless("corners 9 9 9;", "corners 002 9 009;", "corners 0 0 0;");
        });
        E.sentence("Terms 1", "a TURN above 7", () -> {
            for (String much : new String[] {"8", "08", "9", "10", "008", "999"}) {
                fault("corners 3 3 4;ant 7 " + much + ";", 2, 20);
            }
            faultless("corners 3 3 4;ant 007 1;");
        });
        E.sentence("Terms 1", "the 9th CORNER", () -> {
            faultless("corners 2 2 2 2 2 2 2 2;");
            for (String ninth : new String[] {"2", "0", "1", "10", "2222"}) {
                fault("corners 2 2 2 2 2 2 2 2 " + ninth + ";", 2, 24);
            }
        });
        E.sentence("Terms 1", "the 9th TURN", () -> {
            faultless("corners 3 3 4;ant 0 1 2 3 4 5 6 7;");
            for (String ninth : new String[] {"0", "7", "8", "1000"}) {
                fault("corners 3 3 4;ant 0 1 2 3 4 5 6 7 " + ninth + ";", 2, 34);
            }
        });
        E.sentence("Terms 1", "3 the sign ; behind CORNERS that make no BOARD.", () -> {
            fault("corners 2 2 2 2 ;", 3, 16);
            fault("corners 2 2 2 2\n\n;x", 3, 17);
            fault("corners 3 3 3;", 3, 13);
            // Where no sign ; stands it isn't said yet.
            fault("corners 2 2 2 2", 1, 15);
            fault("corners 2 2 2 2 ant", 1, 16);
        });
    }

    private static void newObject() {
        E.sentence("Promise 1", "A BOARD of five CORNERS of 2.", () -> {
            FarBoard x = new FarBoard();
            int[] counts = {5, 1161, 6, 1, 5, 0, 0, 0, 0};
            for (int i = 0; i < counts.length; i++) {
                int what = i;
                E.is(counts[i], "count " + i, () -> x.count(what));
            }
            for (int i = 0; i < 4; i++) {
                int what = i;
                E.is(0, "ant " + i, () -> x.ant(what));
            }
            E.is(-1, "fault", x::fault);
            E.is(false, "no image", x::restore);
            E.badArgument("an empty tape", () -> x.board(1));
            E.is(0, "no colour", () -> x.tile(1160, 3));
            E.noElement("tile 1161", () -> x.tile(1161, 0));
        });
    }

    private static void feed() {
        E.sentence("Terms 6", "`NONE = -1`: There is none.", () -> E.is(-1, "NONE", () -> FarBoard.NONE));
        E.sentence("Promise 2", "Twenty bytes come behind the tape", () -> {
            FarBoard x = new FarBoard();
            Due.feed(x, "corners 3 3 4 3 3 4 ");
            Due.feed(x, "5;ant 1 2 3;?       ");
            E.is(0, "both, one behind the other", () -> x.board(32));
            E.is(7, "sides", () -> x.count(0));
            E.is(5, "the last corner", () -> x.corner(6));
            E.is(3, "colours", () -> x.count(3));
        });
        E.sentence("Promise 2", "of each number the highest first", () -> {
            FarBoard x = new FarBoard();
            x.feed(0x636f726e, 0x65727332, 0x20332037, 0x203b616e, 0x74372036);
            x.feed(0x3b2020ff, -1, LEAST, 0, 0x20);
            E.is(0, "a text across numbers and feeds", () -> x.board(23));
            E.is(7, "corner 2", () -> x.corner(2));
            // A byte above 127 is no sign of the number: the last of them, behind 0 0 0.
            x.feed(0xff, 0, 0, 0, 0);
            E.is(1, "a byte of 0 is first", () -> x.board(4));
            E.is(0, "its place", x::fault);
            x.feed(0x202020ff, 0, 0, 0, 0);
            E.is(1, "255 is the fourth", () -> x.board(4));
            E.is(3, "its place", x::fault);
            x.feed(0x20202020, 0x20202020, 0x20202020, 0x20202020, 0x202020ff);
            E.is(1, "255 is the twentieth", () -> x.board(20));
            E.is(19, "its place", x::fault);
        });
        E.sentence("Promise 2", "how many it has", () -> {
            FarBoard x = new FarBoard();
            for (int i = 20; i <= 200; i += 20) {
                E.is(i, "feed", () -> x.feed(0, LEAST, MOST, -1, 1));
            }
            E.is(200, "count", () -> x.count(5));
        });
        E.sentence("Promise 2", "NONE, and none come, if it would have more than 200", () -> {
            FarBoard x = new FarBoard();
            StringBuilder text = new StringBuilder("corners 3 3 4");
            while (text.length() < 200) {
                text.append(text.length() == 199 ? ';' : ' ');
            }
            Due.feed(x, text.toString());
            E.is(200, "just 200 come", () -> x.count(5));
            for (int i = 0; i < 3; i++) {
                E.is(-1, "no more", () -> x.feed(0, 0, 0, 0, 0));
            }
            E.is(200, "still 200", () -> x.count(5));
            E.badArgument("not so many", () -> x.board(201));
            E.is(0, "they are as they were", () -> x.board(200));
            E.is(20, "there is room again", () -> x.feed(0, 0, 0, 0, 0));
        });
    }

    private static void board() {
        E.sentence("Promise 3", "The tape's first n bytes", () -> {
            FarBoard x = new FarBoard();
            Due.feed(x, "corners 3 3 4;?9999");
            E.is(0, "those behind are not looked at", () -> x.board(14));
            Due.feed(x, "corners 3 3 456");
            E.is(1, "a number is cut off by n", () -> x.board(13));
            E.is(13, "it ends too soon", x::fault);
            Due.feed(x, "corners 3 3 4;");
            E.is(1, "a word is cut off by n", () -> x.board(6));
            E.is(0, "another word", x::fault);
            Due.feed(x, "corners 3 3 4;");
            E.is(1, "none of them", () -> x.board(0));
            E.is(0, "length 0", x::fault);
            Due.feed(x, "corners 3 3 4;");
            E.is(0, "all of them", () -> x.board(20));
        });
        E.sentence("Promise 3", "(it is empty then)", () -> {
            FarBoard x = new FarBoard();
            Due.feed(x, "corners 3 3 4;");
            E.is(0, "a board", () -> x.board(14));
            E.is(0, "nothing is left", () -> x.count(5));
            E.badArgument("not one byte", () -> x.board(1));
            Due.feed(x, "corners 3 3 3;");
            E.is(3, "a fault", () -> x.board(14));
            E.is(0, "nothing is left of it", () -> x.count(5));
            E.badArgument("not one byte", () -> x.board(1));
            E.is(20, "the next ones come first", () -> x.feed(0x20202020, 0, 0, 0, 0));
            E.is(1, "a board of them", () -> x.board(5));
            E.is(4, "no byte of the old ones", x::fault);
        });
        E.sentence("Promise 3", "are a BOARD, all anew", () -> {
            // The farthest rim and the most tiles of all boards first, then few: nothing of them is left.
            FarBoard x = E.of("corners 2 3 7;ant 1 2 3 4 5 6 7 0;");
            askAll(x);
            E.change(x, "corners 2 3 4 4;");
            askAll(x);
            E.change(x, "corners 0 0 0 0 0 0 0 0;");
            E.is(457, "tiles", () -> x.count(1));
            E.is(3, "the rim", () -> x.count(2));
            E.is(0, "ring 4", () -> x.ring(4));
            E.noElement("tile 457", () -> x.tile(457, 0));
            E.is(-1, "across at the rim", () -> x.across(456, 0));
            E.is(8, "classes", () -> x.count(4));
            E.is(8 * 7, "growth", () -> x.growth(2));
            E.is(8, "walks", () -> x.walks(2, 0));
            E.is(8, "come home", () -> x.home(2));
            E.is(255, "closed", () -> x.closed(2, 0));
            E.is(1, "smooth", () -> x.closed(2, 1));
            E.is(-1, "handles", () -> x.closed(2, 3));
            E.is(1, "first", () -> x.first(2, 7, 0));
            E.is(1, "colours", () -> x.count(3));
            E.change(x, "corners 2 2 2 2 2;");
            E.is(31, "closed", () -> x.closed(2, 0));
            E.noElement("first", () -> x.first(2, 0, 0));
            // As many steps as were asked last.
            E.is(5L, "walks", () -> x.walks(2, 0));
            E.change(x, "corners 0 0 0;");
            E.is(3L, "walks", () -> x.walks(2, 0));
            E.change(x, "corners 0 0 0 0;");
            E.is(4L, "come home", () -> x.home(2));
            E.is(3L, "far", () -> x.far(2, 0) * 2 / x.far(2, 1));
        });
        E.sentence("Promise 3", "0, or the FAULT (all stays)", () -> {
            FarBoard x = E.of("corners 2 3 7;ant 1 2 3;");
            x.steps(5);
            x.undo();
            x.image();
            x.redo();
            int[] before = stateOf(x);
            for (String text : new String[] {"corners 9 9 9 9;ant 1 8", "corners 2 2 2 2;", "ant", "", "corners 8 8 8 8 8 8 8 8 8"}) {
                E.is(true, "a fault", () -> Due.board(x, text) > 0);
                E.due.same("all is as it was", java.util.Arrays.toString(stateOf(x)), java.util.Arrays.toString(before));
            }
            E.is(5, "status 0", () -> x.count(6));
            E.is(true, "the image is there", x::restore);
            E.is(4, "it is as it was", () -> x.ant(2));
            E.is(1, "its undone step too", () -> x.ant(3));
            E.is(1, "the ant goes by the turns that it had", () -> x.steps(1));
        });
        E.sentence("Promise 3", "The ANT is at HOME, all is of COLOUR 0, nothing can be undone", () -> {
            FarBoard x = E.of("corners 2 2 2 2 2;ant 1 2 3;");
            x.steps(40);
            x.undo();
            E.change(x, "corners 2 2 2 2 2;ant 1 2 3;");
            for (int i = 0; i < 4; i++) {
                int what = i;
                E.is(0, "ant " + i, () -> x.ant(what));
            }
            for (int i = 0; i < 100; i++) {
                int tile = i;
                E.is(0, "colour of " + i, () -> x.tile(tile, 3));
            }
            E.is(false, "undo", x::undo);
            E.is(false, "redo", x::redo);
        });
        E.sentence("Promise 3", "the image is gone (STATUS stays)", () -> {
            FarBoard x = E.of("corners 0 0 0;");
            x.undo();
            x.undo();
            x.redo();
            E.change(x, "corners 0 0 0;ant 1 2;");
            x.steps(400);
            x.image();
            Due.board(x, "?");
            E.is(true, "it is there by a fault", x::restore);
            E.change(x, "corners 0 0 0;ant 1 2;");
            E.is(false, "it is gone", x::restore);
            E.is(1, "status 0", () -> x.count(6));
            E.is(1, "status 1", () -> x.count(7));
            E.is(3, "status 2", () -> x.count(8));
        });
    }

    private static void boardThatCantBe() {
        E.sentence("Promise 3", "the tape has not so many", () -> {
            FarBoard x = new FarBoard();
            E.badArgument("1 of none", () -> x.board(1));
            E.is(1, "0 of none can be", () -> x.board(0));
            Due.feed(x, "corners 3 3 4;");
            E.badArgument("21 of 20", () -> x.board(21));
            E.badArgument("the most", () -> x.board(MOST));
            E.badArgument("200 of 20", () -> x.board(200));
            E.is(0, "20 of 20 can be", () -> x.board(20));
            for (int i = 0; i < 10; i++) {
                x.feed(0, 0, 0, 0, 0);
            }
            E.badArgument("201 of 200", () -> x.board(201));
        });
        E.sentence("Promise 3", "n below 0", () -> {
            FarBoard x = new FarBoard();
            E.badArgument("-1", () -> x.board(-1));
            Due.feed(x, "corners 3 3 4;");
            E.badArgument("-1", () -> x.board(-1));
            E.badArgument("-20", () -> x.board(-20));
            E.badArgument("the least", () -> x.board(LEAST));
        });
        E.sentence("Promise 3", "(nothing changes)", () -> {
            FarBoard x = E.of("corners 2 3 7;ant 1 2;");
            x.steps(3);
            x.undo();
            x.image();
            Due.board(x, "corners ?");
            Due.feed(x, "corners 3 3 4;");
            int[] before = stateOf(x);
            for (int n : new int[] {21, -1, MOST, LEAST}) {
                E.badArgument("board " + n, () -> x.board(n));
                E.due.same("all is as it was", java.util.Arrays.toString(stateOf(x)), java.util.Arrays.toString(before));
                E.is(8, "the fault's place stays", x::fault);
                E.is(20, "the tape stays", () -> x.count(5));
                E.is(1, "status 0 stays", () -> x.count(6));
            }
            E.is(true, "the image stays", x::restore);
            E.is(0, "the tape's bytes stay", () -> x.board(14));
            E.is(4, "corner 2", () -> x.corner(2));
        });
    }

    private static void fault() {
        E.sentence("Promise 4", "The place of the latest board()'s FAULT", () -> {
            FarBoard x = new FarBoard();
            E.is(2, "a fault", () -> Due.board(x, "corners 3 3 44;"));
            E.is(12, "its place", x::fault);
            E.is(12, "asked again", x::fault);
            E.is(1, "a later one", () -> Due.board(x, "corner"));
            E.is(0, "its place", x::fault);
        });
        E.sentence("Promise 4", "NONE without.", () -> {
            FarBoard x = new FarBoard();
            E.is(-1, "at first", x::fault);
            Due.board(x, "corners 3 3 44;");
            E.change(x, "corners 3 3 4;");
            E.is(-1, "behind a board", x::fault);
            E.badArgument("a board that can't be", () -> x.board(1));
            E.is(-1, "behind that", x::fault);
        });
    }

    private static void countAndCorner() {
        E.sentence("Promise 5", "3 COLOURS of the ANT, 4 CLASSES, 5 bytes of the tape, 6 to 8 STATUS 0 to 2", () -> {
            FarBoard x = E.of("corners 3 2 2 2;ant 1 2;");
            x.feed(0, 0, 0, 0, 0);
            x.board(20);
            x.steps(400);
            x.steps(400);
            for (int i = 0; i < 3; i++) {
                x.redo();
            }
            x.feed(0, 0, 0, 0, 0);
            x.feed(0, 0, 0, 0, 0);
            int[] due = {4, 2, 3, 40, 1, 2, 3};
            E.is(due[0], "count 0", () -> x.count(0));
            for (int i = 1; i < due.length; i++) {
                int what = i + 2;
                E.is(due[i], "count " + what, () -> x.count(what));
            }
        });
        E.sentence("Promise 5", "NoSuchElementException: another what.", () -> {
            FarBoard x = new FarBoard();
            for (int what : new int[] {-1, 9, LEAST, MOST, -9}) {
                E.noElement("count " + what, () -> x.count(what));
            }
            E.is(0, "count 8 is one", () -> x.count(8));
            E.is(5, "count 0 is one", () -> x.count(0));
        });
        E.sentence("Promise 6", "NoSuchElementException: no such CORNER.", () -> {
            FarBoard x = E.of("corners 9 8 7 6 5 4 3 2;");
            for (int i = 0; i < 8; i++) {
                int corner = i;
                E.is(9 - i, "corner " + i, () -> x.corner(corner));
            }
            for (int corner : new int[] {-1, 8, LEAST, MOST}) {
                E.noElement("corner " + corner, () -> x.corner(corner));
            }
            E.change(x, "corners 9 8 7;");
            for (int corner : new int[] {-1, 3, 4, 7, 8}) {
                E.noElement("corner " + corner + " of three", () -> x.corner(corner));
            }
            E.is(7, "corner 2 is one", () -> x.corner(2));
        });
    }

    /** What an object answers, so far as a text with a fault or one that can't be could change it. */
    private static int[] stateOf(FarBoard x) {
        int corners = 0;
        for (int i = 0; i < x.count(0); i++) {
            corners = corners * 10 + x.corner(i);
        }
        int paint = 0;
        for (int tile = 0; tile < 10; tile++) {
            paint = paint * 8 + x.tile(tile, 3);
        }
        return new int[] {x.count(0), x.count(1), x.count(2), x.count(3), x.count(4), x.count(7), x.count(8), corners,
            paint, x.ant(0), x.ant(1), x.ant(2), x.ant(3), (int) x.growth(5), x.closed(2, 0), x.across(5, 1)};
    }

    private static void askAll(FarBoard x) {
        x.growth(60);
        x.walks(3, 5);
        x.home(16);
        x.far(3, 0);
        for (int n = 1; n <= 4; n++) {
            x.closed(n, 0);
        }
        x.steps(10);
        x.undo();
        x.image();
    }
}
