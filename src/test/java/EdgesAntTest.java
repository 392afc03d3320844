/** Sentences that name a boundary: the ant, its steps undone and done again (Terms 6, Promises 24 to 29). */
public final class EdgesAntTest {
    private static final Edges E = new Edges();
    private static final int LEAST = Integer.MIN_VALUE;
    private static final int MOST = Integer.MAX_VALUE;
    /** From home by sides 1, 2, 0 and so on: after nine steps it is at the rim and can't go on. */
    private static final String OUTWARD = "corners 0 0 0;ant 1 1;";
    /** It comes back to tiles that it painted, and stays within the rim for 150 steps and more. */
    private static final String WANDERING = "corners 2 3 7;ant 0 1 1;";

    public static void main(String[] args) {
        atFirst();
        aStep();
        cantBe();
        undone();
        status();
        steps();
        ant();
        undo();
        redo();
        image();
        restore();
        E.due.end();
    }

    private static void stands(FarBoard x, int place, int side, int undoable, int redoable) {
        E.is(place, "the ant's tile", () -> x.ant(0));
        E.is(side, "the side by which it came", () -> x.ant(1));
        E.is(undoable, "steps to undo", () -> x.ant(2));
        E.is(redoable, "steps to do again", () -> x.ant(3));
    }

    private static void painted(FarBoard x, int tile, int colour) {
        E.is(colour, "colour of " + tile, () -> x.tile(tile, 3));
    }

    private static void made(FarBoard x, int steps, int due) {
        E.is(due, "steps " + steps, () -> x.steps(steps));
    }

    private static void atFirst() {
        E.sentence("Terms 6", "HOME, SIDE 0 at first. All TILES are of COLOUR 0 at first.", () -> {
            FarBoard x = new FarBoard();
            stands(x, 0, 0, 0, 0);
            for (int tile = 0; tile < x.count(1); tile++) {
                E.due.same("colour of " + tile, x.tile(tile, 3), 0);
            }
            FarBoard y = E.of("corners 2 3 4 4;ant 7 7;");
            stands(y, 0, 0, 0, 0);
            painted(y, 1999, 0);
        });
    }

    private static void aStep() {
        E.sentence("Terms 6", "it paints it c and 1 (MOD COLOURS)", () -> {
            // Without turns it goes to and fro between home and 1: home is painted at each odd step.
            for (int colours = 1; colours <= 8; colours++) {
                FarBoard x = E.of("corners 0 0 0;ant" + " 0".repeat(colours) + ";");
                for (int step = 1; step <= 4 * colours; step++) {
                    made(x, 1, 1);
                    painted(x, 0, (step + 1) / 2 % colours);
                    painted(x, 1, step / 2 % colours);
                }
            }
        });
        E.sentence("Terms 6", "leaves by the SIDE by which it came and TURN of c (MOD p)", () -> {
            for (int p = 3; p <= 8; p++) {
                for (int turn = 0; turn <= 7; turn++) {
                    FarBoard x = E.of("corners" + " 0".repeat(p) + ";ant " + turn + " 0;");
                    made(x, 1, 1);
                    stands(x, 1 + turn % p, turn % p, 1, 0);
                    made(x, 1, 1);
                    E.is(2 * turn % p, "twice " + turn + " of " + p, () -> x.ant(1));
                }
            }
            // The turn is that of the colour ahead of painting: home is of colour 0, then 1, then 2.
            FarBoard y = E.of("corners 0 0 0 0 0 0 0 0;ant 0 3 6;");
            made(y, 2, 2);
            stands(y, 0, 0, 2, 0);
            made(y, 1, 1);
            stands(y, 4, 3, 3, 0);
        });
        E.sentence("Terms 6", "to the TILE across (it has come by that SIDE then)", () -> {
            FarBoard x = E.of(OUTWARD);
            int[] tiles = {0, 2, 0, 0, 0, 0, 0, 0, 0, 0};
            for (int step = 1; step <= 9; step++) {
                int side = step % 3;
                tiles[step] = x.across(tiles[step - 1], side);
                made(x, 1, 1);
                stands(x, tiles[step], side, step, 0);
            }
        });
    }

    private static void cantBe() {
        E.sentence("Terms 6", "Where no number is, it can't.", () -> {
            FarBoard x = E.of(OUTWARD);
            made(x, 9, 9);
            int place = x.ant(0);
            E.is(9, "it is at the rim", () -> x.tile(place, 0));
            E.is(0, "none of its steps was refused", () -> x.count(7));
            for (int i = 1; i <= 3; i++) {
                made(x, 1, 0);
                stands(x, place, 0, 9, 0);
                painted(x, place, 0);
                int refused = i;
                E.is(refused, "refused", () -> x.count(7));
            }
            E.is(true, "its steps can be undone", x::undo);
            stands(x, x.across(place, 0), 2, 8, 1);
        });
    }

    private static void undone() {
        E.sentence("Terms 6", "STEPS can be undone, the last one first", () -> {
            FarBoard x = E.of(WANDERING);
            String[] were = new String[31];
            for (int i = 0; i <= 30; i++) {
                were[i] = stateOf(x);
                x.steps(i < 30 ? 1 : 0);
            }
            for (int i = 29; i >= 0; i--) {
                E.is(true, "undo", x::undo);
                E.due.same("as it was after " + i, stateOf(x), were[i]);
            }
            E.is(false, "no more", x::undo);
            E.due.same("as it was at first", stateOf(x), were[0]);
        });
        E.sentence("Terms 6", "(those ahead of the latest 1000 can't)", () -> {
            // To and fro for ever.
            FarBoard x = new FarBoard();
            made(x, 400, 400);
            made(x, 400, 400);
            made(x, 199, 199);
            E.is(999, "999", () -> x.ant(2));
            made(x, 1, 1);
            E.is(1000, "just 1000", () -> x.ant(2));
            made(x, 1, 1);
            E.is(1000, "the first can't any more", () -> x.ant(2));
            made(x, 400, 400);
            E.is(1000, "401 can't", () -> x.ant(2));
            E.is(true, "undo", x::undo);
            E.is(999, "one less", () -> x.ant(2));
            E.is(true, "redo", x::redo);
            E.is(1000, "one more", () -> x.ant(2));
            E.is(false, "none is left to do again", x::redo);
            E.is(1000, "still", () -> x.ant(2));
            for (int i = 0; i < 400; i++) {
                x.undo();
            }
            E.is(600, "those that can't don't come back", () -> x.ant(2));
            E.is(400, "400 can be done again", () -> x.ant(3));
            made(x, 1, 1);
            E.is(601, "one more than 600", () -> x.ant(2));
        });
        E.sentence("Terms 6", "and, undone, be done again, the last one that was undone first", () -> {
            FarBoard x = E.of(WANDERING);
            String[] were = new String[21];
            for (int i = 0; i <= 20; i++) {
                were[i] = stateOf(x);
                x.steps(i < 20 ? 1 : 0);
            }
            for (int i = 0; i < 20; i++) {
                x.undo();
            }
            for (int i = 1; i <= 20; i++) {
                E.is(true, "redo", x::redo);
                E.due.same("as it was after " + i, stateOf(x), were[i]);
            }
            E.is(false, "no more", x::redo);
            E.due.same("as it was at last", stateOf(x), were[20]);
        });
        E.sentence("Terms 6", "till another STEP is made by steps()", () -> {
            FarBoard x = E.of(WANDERING);
            made(x, 5, 5);
            x.undo();
            x.undo();
            x.undo();
            made(x, 0, 0);
            E.is(3, "no step is none", () -> x.ant(3));
            E.badArgument("a call that can't be", () -> x.steps(401));
            E.is(3, "that is none", () -> x.ant(3));
            made(x, 1, 1);
            E.is(0, "none can be done again", () -> x.ant(3));
            E.is(3, "three can be undone", () -> x.ant(2));
            E.is(false, "redo", x::redo);
            // The step that was undone is made anew by steps(), and one more can't be.
            FarBoard y = E.of(OUTWARD);
            made(y, 400, 9);
            y.undo();
            made(y, 2, 1);
            stands(y, y.walk(0, Edges.row(1, 2, 0, 1, 2, 0, 1, 2, 0), 9), 0, 9, 0);
        });
    }

    /** What an ant's step changes, but for how many can be undone or done again. */
    private static String stateOf(FarBoard x) {
        StringBuilder state = new StringBuilder("on " + x.ant(0) + " by " + x.ant(1) + ", painted");
        for (int tile = 0; tile < x.count(1); tile++) {
            if (x.tile(tile, 3) != 0) {
                state.append(' ').append(tile).append('=').append(x.tile(tile, 3));
            }
        }
        return state.toString();
    }

    private static void status() {
        E.sentence("Terms 6", "STATUS: how many calls were refused: 0 of TEXTS with a FAULT, 1 STEPS that can't be, "
                + "2 what can't be undone or done again.", () -> {
            FarBoard x = new FarBoard();
            x.undo();
            x.redo();
            x.redo();
            Due.board(x, "corners");
            E.change(x, OUTWARD);
            made(x, 400, 9);
            made(x, 400, 0);
            made(x, 0, 0);
            // What throws, and what there is no image for, is not counted; nor is what can be.
            E.badArgument("board", () -> x.board(1));
            E.badArgument("steps", () -> x.steps(-1));
            E.is(false, "restore", x::restore);
            E.is(true, "undo", x::undo);
            E.is(true, "redo", x::redo);
            E.noElement("ant", () -> x.ant(4));
            int[] due = {1, 2, 3};
            for (int i = 0; i < 3; i++) {
                int what = i + 6;
                E.is(due[i], "status " + i, () -> x.count(what));
            }
        });
    }

    private static void steps() {
        E.sentence("Promise 24", "(0 to 400)", () -> {
            FarBoard x = new FarBoard();
            made(x, 0, 0);
            E.is(0, "none", () -> x.ant(2));
            made(x, 400, 400);
            E.is(400, "all", () -> x.ant(2));
        });
        E.sentence("Promise 24", "till one can't be (STATUS 1): how many were made", () -> {
            FarBoard x = E.of(OUTWARD);
            made(x, 8, 8);
            E.is(0, "not refused", () -> x.count(7));
            made(x, 2, 1);
            E.is(1, "refused", () -> x.count(7));
            made(x, 400, 0);
            E.is(2, "refused, once a call", () -> x.count(7));
            made(x, 0, 0);
            E.is(2, "where none can be no step can", () -> x.count(7));
            E.is(9, "those made can be undone", () -> x.ant(2));
            FarBoard y = E.of(OUTWARD);
            made(y, 9, 9);
            E.is(0, "just to the rim", () -> y.count(7));
        });
        E.sentence("Promise 24", "IllegalArgumentException: how many.", () -> {
            FarBoard x = new FarBoard();
            made(x, 3, 3);
            x.undo();
            for (int steps : new int[] {-1, 401, 402, LEAST, MOST}) {
                E.badArgument("steps " + steps, () -> x.steps(steps));
                stands(x, 0, 0, 2, 1);
            }
            E.is(0, "not counted", () -> x.count(7));
        });
    }

    private static void ant() {
        E.sentence("Promise 25", "0 its TILE, 1 the SIDE by which it came, 2 how many STEPS can be undone, "
                + "3 how many can be done again", () -> {
            FarBoard x = E.of(OUTWARD);
            stands(x, 0, 0, 0, 0);
            made(x, 2, 2);
            stands(x, x.across(2, 2), 2, 2, 0);
            x.undo();
            stands(x, 2, 1, 1, 1);
        });
        E.sentence("Promise 25", "NoSuchElementException: another what.", () -> {
            FarBoard x = new FarBoard();
            for (int what : new int[] {-1, 4, 5, LEAST, MOST}) {
                E.noElement("ant " + what, () -> x.ant(what));
            }
        });
    }

    private static void undo() {
        E.sentence("Promise 26", "False (STATUS 2): none can be.", () -> {
            FarBoard x = E.of(OUTWARD);
            E.is(false, "at first", x::undo);
            made(x, 1, 1);
            E.is(true, "one", x::undo);
            E.is(1, "not counted", () -> x.count(8));
            E.is(false, "no more", x::undo);
            E.is(2, "counted", () -> x.count(8));
            stands(x, 0, 0, 0, 1);
            painted(x, 0, 0);
            E.is(0, "status 1 is another", () -> x.count(7));
        });
        E.sentence("Promise 26", "The last STEP is undone: true.", () -> {
            // What was painted round to 0 is of the last colour again.
            FarBoard x = E.of("corners 0 0 0;ant 0 0 0;");
            made(x, 5, 5);
            painted(x, 0, 0);
            painted(x, 1, 2);
            E.is(true, "undo", x::undo);
            painted(x, 0, 2);
            painted(x, 1, 2);
            stands(x, 0, 0, 4, 1);
            // A turn that went round beyond the last side is taken back.
            FarBoard y = E.of("corners 0 0 0;ant 2 2;");
            made(y, 2, 2);
            E.is(1, "by 2, then by 4 of 3", () -> y.ant(1));
            y.undo();
            stands(y, 3, 2, 1, 1);
            y.undo();
            stands(y, 0, 0, 0, 2);
        });
    }

    private static void redo() {
        E.sentence("Promise 27", "False (STATUS 2): there is none.", () -> {
            FarBoard x = E.of(OUTWARD);
            E.is(false, "at first", x::redo);
            made(x, 1, 1);
            E.is(false, "none was undone", x::redo);
            x.undo();
            E.is(true, "one was", x::redo);
            E.is(2, "not counted", () -> x.count(8));
            E.is(false, "no more", x::redo);
            E.is(3, "counted", () -> x.count(8));
            stands(x, 2, 1, 1, 0);
        });
        E.sentence("Promise 27", "The STEP that was undone last is done again: true.", () -> {
            FarBoard x = E.of(OUTWARD);
            made(x, 9, 9);
            int place = x.ant(0);
            x.undo();
            x.undo();
            E.is(true, "redo", x::redo);
            E.is(8, "its ring", () -> x.tile(x.ant(0), 0));
            E.is(true, "redo", x::redo);
            stands(x, place, 0, 9, 0);
        });
    }

    private static void image() {
        E.sentence("Promise 28", "are kept as an image, in place of another one", () -> {
            FarBoard x = E.of(OUTWARD);
            x.image();
            made(x, 2, 2);
            x.image();
            made(x, 2, 2);
            E.is(true, "restore", x::restore);
            E.is(2, "the later one", () -> x.ant(2));
            x.image();
            x.undo();
            x.image();
            x.redo();
            E.is(true, "restore", x::restore);
            stands(x, 2, 1, 1, 1);
        });
        E.sentence("Promise 28", "The ANT, what it painted, its STEPS are kept", () -> {
            FarBoard x = E.of(WANDERING);
            made(x, 30, 30);
            for (int i = 0; i < 5; i++) {
                x.undo();
            }
            String kept = stateOf(x);
            x.image();
            E.due.same("nothing changes by that", stateOf(x), kept);
            stands(x, x.ant(0), x.ant(1), 25, 5);
            made(x, 100, 100);
            E.is(true, "restore", x::restore);
            E.due.same("as it was", stateOf(x), kept);
            stands(x, x.ant(0), x.ant(1), 25, 5);
            for (int i = 0; i < 5; i++) {
                E.is(true, "its undone steps can be done again", x::redo);
            }
            E.is(false, "no more", x::redo);
            for (int i = 0; i < 30; i++) {
                E.is(true, "its steps can be undone", x::undo);
            }
            E.is(false, "no more", x::undo);
            stands(x, 0, 0, 0, 30);
        });
    }

    private static void restore() {
        E.sentence("Promise 29", "They are as the image again: true.", () -> {
            FarBoard x = E.of(OUTWARD);
            x.image();
            made(x, 9, 9);
            // Again and again: the image stays as it was, whatever is done behind it.
            for (int i = 0; i < 3; i++) {
                E.is(true, "restore", x::restore);
                stands(x, 0, 0, 0, 0);
                painted(x, 0, 0);
                painted(x, 2, 0);
                made(x, 400, 9);
                painted(x, 0, 1);
                x.undo();
            }
            E.is(3, "status stays", () -> x.count(7));
        });
        E.sentence("Promise 29", "False: there is none.", () -> {
            FarBoard x = E.of(OUTWARD);
            made(x, 4, 4);
            x.undo();
            E.is(false, "restore", x::restore);
            stands(x, x.walk(0, Edges.row(1, 2, 0), 3), 0, 3, 1);
            E.is(0, "not counted", () -> x.count(8));
            x.image();
            E.is(true, "there is one", x::restore);
            E.change(x, OUTWARD);
            E.is(false, "it is gone with the board", x::restore);
        });
    }
}
