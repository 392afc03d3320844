import java.util.Random;
import java.util.concurrent.Callable;

/** Runs of calls by chance (the same each time), each answered by the program and by the naive board. */
public final class ModelTest {
    private static final int RUNS = 150;
    private static final int CALLS = 512;

    private final Due due = new Due();
    private final Random chance;
    private final FarBoard board = new FarBoard();
    private final NaiveBoard naive = new NaiveBoard();
    private final StringBuilder story = new StringBuilder();

    private ModelTest(long seed) {
        chance = new Random(seed);
    }

    public static void main(String[] args) {
        int checks = 0;
        int from = args.length > 0 ? Integer.parseInt(args[0]) : 1;
        int runs = args.length > 1 ? Integer.parseInt(args[1]) : RUNS;
        for (int run = from; run < from + runs; run++) {
            ModelTest test = new ModelTest(run);
            for (int call = 0; call < CALLS - 15; call++) {
                test.callByChance();
                checks++;
                if (test.due.hasWrong()) {
                    System.out.println("run " + run + ", of which the board is: " + test.story);
                    System.exit(1);
                }
            }
        }
        System.out.println(checks + " calls alike");
    }

    private void both(String what, Callable<?> ours, Callable<?> theirs) {
        due.same(what, Due.answer(ours), Due.answer(theirs));
    }

    private int upTo(int most) {
        return chance.nextInt(most + 1);
    }

    /** Mostly 0 .. most, at times beside it. */
    private int about(int most) {
        int beside = chance.nextInt(40);
        if (beside == 0) {
            return -1 - chance.nextInt(3);
        }
        if (beside == 1) {
            return most + 1 + chance.nextInt(3);
        }
        if (beside == 2) {
            return chance.nextInt();
        }
        return upTo(Math.max(most, 0));
    }

    private int someTile() {
        int tiles = naive.count(1);
        return about((chance.nextBoolean() ? Math.min(tiles, 40) : tiles) - 1);
    }

    private void callByChance() {
        int kind = chance.nextInt(100);
        if (kind < 2) {
            newBoard();
        } else if (kind < 40) {
            askTiles();
        } else if (kind < 55) {
            askWalks();
        } else if (kind < 70) {
            askMoves();
        } else if (kind < 74) {
            askClosed();
        } else {
            useAnt();
        }
    }

    private void newBoard() {
        String text = textByChance();
        story.append("\n").append(text);
        StringBuilder padded = new StringBuilder(text);
        int more = chance.nextInt(8) == 0 ? 220 : 0;
        while (padded.length() % 20 != 0 || padded.length() < more) {
            padded.append(chance.nextInt(10) == 0 ? '7' : ' ');
        }
        for (int i = 0; i < padded.length(); i += 20) {
            int[] f = new int[5];
            for (int k = 0; k < 20; k++) {
                f[k / 4] = f[k / 4] << 8 | padded.charAt(i + k) & 255;
            }
            both("feed", () -> board.feed(f[0], f[1], f[2], f[3], f[4]), () -> naive.feed(f));
        }
        int n = chance.nextInt(10) == 0 ? about(padded.length()) : text.length();
        both("board " + n, () -> board.board(n), () -> naive.board(n));
        both("fault", board::fault, naive::fault);
        both("count(5)", () -> board.count(5), () -> naive.count(5));
    }

    private String textByChance() {
        StringBuilder text = new StringBuilder(chance.nextInt(30) == 0 ? "corner" : "corners");
        int[] likely = {2, 2, 2, 3, 3, 4, 5, 6, 7, 8, 9, 0, 0};
        int corners = chance.nextInt(20) == 0 ? 1 + chance.nextInt(9) : 3 + chance.nextInt(chance.nextInt(4) + 1);
        for (int i = 0; i < corners; i++) {
            text.append(blank()).append(chance.nextInt(60) == 0 ? strange() : "" + likely[chance.nextInt(likely.length)]);
        }
        text.append(chance.nextInt(30) == 0 ? "" : ";");
        if (chance.nextInt(4) != 0) {
            text.append(chance.nextInt(30) == 0 ? "ants" : "ant");
            int colours = chance.nextInt(20) == 0 ? chance.nextInt(11) : 1 + chance.nextInt(4);
            for (int i = 0; i < colours; i++) {
                text.append(blank()).append(chance.nextInt(60) == 0 ? strange() : "" + chance.nextInt(8));
            }
            text.append(chance.nextInt(30) == 0 ? "" : ";");
        }
        if (chance.nextInt(30) == 0) {
            text.append(strange());
        }
        return text.length() > 200 ? text.substring(0, 200) : text.toString();
    }

    private String blank() {
        String[] blanks = {" ", " ", " ", "\n", "  ", " \n "};
        return blanks[chance.nextInt(blanks.length)];
    }

    private String strange() {
        String[] all = {"1", "10", "8", "007", "0002", "9999", "ant", "x", ";", ",", "A", "\t", "" + (char) 200, "02", "2x", "corners"};
        return all[chance.nextInt(all.length)];
    }

    private void askTiles() {
        int tile = someTile();
        int side = about(naive.count(0) - 1);
        int what = about(8);
        int few = about(4);
        int n = about(60);
        switch (chance.nextInt(9)) {
            case 0:
                both("count " + what, () -> board.count(what), () -> naive.count(what));
                break;
            case 1:
                both("corner " + side, () -> board.corner(side), () -> naive.corner(side));
                break;
            case 2:
            case 3:
                both("tile " + tile + " " + few, () -> board.tile(tile, few), () -> naive.tile(tile, few));
                break;
            case 4:
                both("across " + tile + " " + side, () -> board.across(tile, side), () -> naive.across(tile, side));
                break;
            case 5:
                both("name " + tile + " " + few, () -> board.name(tile, few), () -> naive.name(tile, few));
                break;
            case 6:
                both("ways " + tile, () -> board.ways(tile), () -> naive.ways(tile));
                break;
            case 7:
                both("ring " + what, () -> board.ring(what), () -> naive.ring(what));
                break;
            default:
                both("growth " + n, () -> board.growth(n), () -> naive.growth(n));
        }
    }

    private void askWalks() {
        int tile = someTile();
        int n = about(chance.nextBoolean() ? 16 : naive.count(2) + 1);
        int what = about(1);
        switch (chance.nextInt(3)) {
            case 0:
                both("walks " + n + " " + tile, () -> board.walks(n, tile), () -> naive.walks(n, tile));
                break;
            case 1:
                both("home " + n, () -> board.home(n), () -> naive.home(n));
                break;
            default:
                both("far " + n + " " + what, () -> board.far(n, what), () -> naive.far(n, what));
        }
    }

    private void askMoves() {
        int tile = someTile();
        int other = someTile();
        int side = about(naive.count(0) - 1);
        switch (chance.nextInt(6)) {
            case 0:
                walkByChance(tile);
                break;
            case 1:
                both("move " + tile + " " + other, () -> board.move(tile, other), () -> naive.move(tile, other));
                break;
            case 2:
                both("order " + tile, () -> board.order(tile), () -> naive.order(tile));
                break;
            case 3:
                both("back " + tile, () -> board.back(tile), () -> naive.back(tile));
                break;
            case 4:
                both("apart " + tile + " " + other, () -> board.apart(tile, other), () -> naive.apart(tile, other));
                break;
            default:
                both("side " + side, () -> board.side(side), () -> naive.side(side));
        }
    }

    private void walkByChance(int tile) {
        int many = about(20);
        long row = 0;
        for (int i = 0; i < 21; i++) {
            row = row << 3 | chance.nextInt(chance.nextInt(100) == 0 ? 8 : naive.count(0));
        }
        long whole = chance.nextInt(20) == 0 ? chance.nextLong() : row;
        both("walk " + tile + " " + whole + " " + many, () -> board.walk(tile, whole, many), () -> naive.walk(tile, whole, many));
    }

    private void askClosed() {
        // Six tiles are dear for the naive board, where the search is not spent.
        int n = chance.nextInt(30) == 0 ? about(6) : about(4);
        int what = about(4);
        int side = about(naive.count(0) - 1);
        int tile = about(n);
        if (chance.nextInt(4) > 0) {
            both("closed " + n + " " + what, () -> board.closed(n, what), () -> naive.closed(n, what));
        } else {
            both("first " + n + " " + side + " " + tile, () -> board.first(n, side, tile), () -> naive.first(n, side, tile));
        }
    }

    private void useAnt() {
        int steps = chance.nextInt(4) == 0 ? about(400) : about(12);
        int what = about(3);
        switch (chance.nextInt(12)) {
            case 0:
            case 1:
            case 2:
                both("steps " + steps, () -> board.steps(steps), () -> naive.steps(steps));
                break;
            case 3:
            case 4:
            case 5:
                both("ant " + what, () -> board.ant(what), () -> naive.ant(what));
                break;
            case 6:
            case 7:
                both("undo", board::undo, naive::undo);
                break;
            case 8:
            case 9:
                both("redo", board::redo, naive::redo);
                break;
            case 10:
                board.image();
                naive.image();
                break;
            default:
                if (chance.nextInt(3) == 0) {
                    both("restore", board::restore, naive::restore);
                }
        }
    }
}
