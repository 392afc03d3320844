/** Whole boards, tile by tile and number by number, against the naive board. */
public final class TablesTest {
    private static final String[] TEXTS = {
        "corners 2 2 2 2 2;",
        "corners 2 3 7;",
        "corners 7 3 2;",
        "corners 2 4 5;",
        "corners 3 3 4;",
        "corners 3 0 3;",
        "corners 0 0 0;ant 7 6;",
        "corners 9 9 9;",
        "corners 2 2 2 3;",
        "corners 2 2 2 0;",
        "corners 3 2 3 2;",
        "corners 4 4 4 4;",
        "corners 0 3 0 5;",
        "corners 2 3 2 3 2;",
        "corners 2 2 2 2 2 2;",
        "corners 2 4 2 4 2 4;",
        "corners 2 2 2 2 2 2 2;",
        "corners 3 3 3 3 3 3 3 3;",
        "corners 2 2 2 2 2 2 2 2;",
        "corners 0 0 0 0 0 0 0 0;",
        "corners 9 7 0 7 0 8 2 2;",
        "corners 5 6 5 4 2 4 2 2;",
        "corners 3 4 5 6 7 8 9 0;ant 1 2 3 4 5 6 7 0;",
    };

    private final Due due = new Due();
    private FarBoard board;
    private NaiveBoard naive;

    public static void main(String[] args) {
        TablesTest test = new TablesTest();
        for (String text : TEXTS) {
            test.board = new FarBoard();
            test.naive = new NaiveBoard();
            test.lay(text);
            test.compareTiles(text);
            test.compareMoves(text);
            test.compareNumbers(text);
            test.compareClosed(text);
        }
        test.due.end();
    }

    private void lay(String text) {
        StringBuilder padded = new StringBuilder(text);
        while (padded.length() % 20 != 0) {
            padded.append('\n');
        }
        for (int i = 0; i < padded.length(); i += 20) {
            int[] f = new int[5];
            for (int k = 0; k < 20; k++) {
                f[k / 4] = f[k / 4] << 8 | padded.charAt(i + k);
            }
            due.same(text + " feed", board.feed(f[0], f[1], f[2], f[3], f[4]), naive.feed(f));
        }
        due.same(text + " board", board.board(text.length()), naive.board(text.length()));
        for (int what = 0; what <= 8; what++) {
            due.same(text + " count " + what, board.count(what), naive.count(what));
        }
    }

    private void compareTiles(String text) {
        int sides = naive.count(0);
        for (int side = 0; side < sides; side++) {
            due.same(text + " corner " + side, board.corner(side), naive.corner(side));
            due.same(text + " side " + side, board.side(side), naive.side(side));
        }
        for (int tile = 0; tile < naive.count(1); tile++) {
            for (int side = 0; side < sides; side++) {
                due.same(text + " across " + tile + " " + side, board.across(tile, side), naive.across(tile, side));
            }
            for (int what = 0; what <= 4; what++) {
                due.same(text + " tile " + tile + " " + what, board.tile(tile, what), naive.tile(tile, what));
            }
            for (int i = 0; i < naive.tile(tile, 0); i++) {
                due.same(text + " name " + tile + " " + i, board.name(tile, i), naive.name(tile, i));
            }
            due.same(text + " ways " + tile, board.ways(tile), naive.ways(tile));
        }
    }

    private void compareMoves(String text) {
        int tiles = naive.count(1);
        for (int tile = 0; tile < tiles; tile++) {
            due.same(text + " order " + tile, board.order(tile), naive.order(tile));
            due.same(text + " back " + tile, board.back(tile), naive.back(tile));
            for (int k = 1; k <= 5; k++) {
                int other = (tile * 31 + k * k * 17) % (k < 4 ? Math.min(tiles, 60) : tiles);
                due.same(text + " move " + tile + " " + other, board.move(tile, other), naive.move(tile, other));
                due.same(text + " apart " + tile + " " + other, board.apart(tile, other), naive.apart(tile, other));
            }
        }
    }

    private void compareNumbers(String text) {
        for (int n = 0; n <= 60; n++) {
            due.same(text + " growth " + n, board.growth(n), naive.growth(n));
        }
        for (int n = 0; n <= naive.count(2) + 2; n++) {
            due.same(text + " ring " + n, board.ring(n), naive.ring(n));
            if (n <= naive.count(2)) {
                due.same(text + " growth as ring " + n, board.growth(n), naive.ring(n));
            }
        }
        for (int n = 16; n >= 0; n--) {
            due.same(text + " home " + n, board.home(n), naive.home(n));
            due.same(text + " far " + n + " 0", board.far(n, 0), naive.far(n, 0));
            due.same(text + " far " + n + " 1", board.far(n, 1), naive.far(n, 1));
            for (int tile = 0; tile < naive.count(1); tile += 1 + tile / 4) {
                due.same(text + " walks " + n + " " + tile, board.walks(n, tile), naive.walks(n, tile));
            }
        }
    }

    private void compareClosed(String text) {
        for (int n = 1; n <= 6; n++) {
            int size = n;
            for (int what = 0; what <= 4; what++) {
                due.same(text + " closed " + n + " " + what, board.closed(n, what), naive.closed(n, what));
            }
            for (int i = 0; i < naive.count(0) * n; i++) {
                int side = i / n;
                int tile = i % n;
                due.same(text + " first " + n + " " + side + " " + tile,
                        Due.answer(() -> board.first(size, side, tile)), Due.answer(() -> naive.first(size, side, tile)));
            }
        }
    }
}
