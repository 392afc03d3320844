import java.util.concurrent.Callable;

/** Counts the checks of one test and prints those that fail. */
final class Due {
    private int checks;
    private int wrong;
    private String about = "";

    /** What a call answers, or throws.X if it throws an X. */
    static String answer(Callable<?> call) {
        try {
            return String.valueOf(call.call());
        } catch (Exception e) {
            return "throws." + e.getClass().getSimpleName();
        }
    }

    /** What the checks from here on are of: it is printed ahead of each that fails. */
    void about(String newAbout) {
        about = newAbout + ": ";
    }

    void same(String what, Object got, Object want) {
        checks++;
        if (!String.valueOf(got).equals(String.valueOf(want))) {
            wrong++;
            System.out.println(about + what + " answered " + got + ", due is " + want);
        }
    }

    void is(Object want, String what, Callable<?> call) {
        same(what, answer(call), want);
    }

    void noElement(String what, Callable<?> call) {
        same(what, answer(call), "throws.NoSuchElementException");
    }

    void badArgument(String what, Callable<?> call) {
        same(what, answer(call), "throws.IllegalArgumentException");
    }

    int checks() {
        return checks;
    }

    boolean hasWrong() {
        return wrong > 0;
    }

    void end() {
        System.out.println(checks + " checks, " + wrong + " wrong");
        if (wrong > 0 || checks == 0) {
            System.exit(1);
        }
    }

    /** Feeds a text (filled up with blanks) and makes it the board. */
    static int board(FarBoard board, String text) {
        feed(board, text);
        return board.board(text.length());
    }

    static void feed(FarBoard board, String text) {
        StringBuilder all = new StringBuilder(text);
        while (all.length() % 20 != 0) {
            all.append(' ');
        }
        for (int i = 0; i < all.length(); i += 20) {
            int[] five = new int[5];
            for (int k = 0; k < 20; k++) {
                five[k / 4] = five[k / 4] << 8 | all.charAt(i + k) & 255;
            }
            board.feed(five[0], five[1], five[2], five[3], five[4]);
        }
    }
}
