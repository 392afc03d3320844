import java.util.Arrays;
import java.util.NoSuchElementException;

/** Boards of the far plane: their tiles, growth, walks, moves, closed boards, and an ant. */
public final class FarBoard {
    public static final int NONE = -1;

    private static final int SPENT = -2;
    private static final int LEAST_SIDES = 3;
    private static final int MOST_SIDES = 8;
    private static final int MOST_CORNER = 9;
    private static final int MOST_COLOURS = 8;
    private static final int MOST_TURN = 7;
    private static final int MOST_TILES = 2000;
    /** Far above the deepest rim of all boards, which is 23 (corners 2 3 7). */
    private static final int MOST_RINGS = 64;
    private static final int MOST_BYTES = 200;
    private static final int MOST_WALK_STEPS = 16;
    private static final int MOST_ROW_STEPS = 20;
    private static final int MOST_TIMES = 60;
    private static final int MOST_ANT_STEPS = 400;
    private static final int MOST_CLOSED = 6;
    private static final int CLOSED_ANSWERS = 5;

    private final Tape tape;
    private final Reader reader;
    private final Plane plane;
    private final Series series;
    private final Walker walker;
    private final Seeker seeker;
    private final Ant ant;
    private int faultPlace;
    private int refusedTexts;
    private int refusedSteps;
    private int refusedChanges;

    public FarBoard() {
        tape = new Tape();
        reader = new Reader(tape);
        plane = new Plane();
        series = new Series();
        walker = new Walker(plane);
        seeker = new Seeker(plane);
        ant = new Ant(plane);
        faultPlace = NONE;
        layAnew();
    }

    public int feed(int a, int b, int c, int d, int e) {
        if (!tape.hasRoom()) {
            return NONE;
        }
        tape.put(a);
        tape.put(b);
        tape.put(c);
        tape.put(d);
        tape.put(e);
        return tape.held;
    }

    public int board(int n) throws IllegalArgumentException {
        if (n < 0 || n > tape.held) {
            throw new IllegalArgumentException();
        }
        int fault = reader.read(n);
        tape.held = 0;
        if (fault != Reader.FAULTLESS) {
            faultPlace = reader.start;
            refusedTexts++;
            return fault;
        }
        faultPlace = NONE;
        layAnew();
        return Reader.FAULTLESS;
    }

    public int fault() {
        return faultPlace;
    }

    public int count(int what) throws NoSuchElementException {
        switch (what) {
            case 0:
                return plane.sides;
            case 1:
                return plane.tiles;
            case 2:
                return plane.rim;
            case 3:
                return ant.colours;
            case 4:
                return plane.classes;
            case 5:
                return tape.held;
            case 6:
                return refusedTexts;
            case 7:
                return refusedSteps;
            case 8:
                return refusedChanges;
            default:
                throw new NoSuchElementException();
        }
    }

    public int corner(int corner) throws NoSuchElementException {
        // A board has as many corners as sides.
        needSide(corner);
        return plane.cornerBehind(corner);
    }

    public int tile(int tile, int what) throws NoSuchElementException {
        needTile(tile);
        switch (what) {
            case 0:
                return plane.ringOfTile(tile);
            case 1:
                return plane.lesserOf(tile);
            case 2:
                return plane.colourOf(tile);
            case 3:
                return ant.paintOn(tile);
            case 4:
                return plane.neighboursOf(tile);
            default:
                throw new NoSuchElementException();
        }
    }

    public int across(int tile, int side) throws NoSuchElementException {
        needTile(tile);
        needSide(side);
        return plane.beyond(tile, side);
    }

    public int name(int tile, int i) throws NoSuchElementException {
        needTile(tile);
        if (i < 0 || i >= plane.ringOfTile(tile)) {
            throw new NoSuchElementException();
        }
        return plane.nameSide(tile, i);
    }

    public long ways(int tile) throws NoSuchElementException {
        needTile(tile);
        return plane.waysTo(tile);
    }

    public int ring(int ring) throws NoSuchElementException {
        if (ring < 0) {
            throw new NoSuchElementException();
        }
        return plane.tilesOfRing(ring);
    }

    public long growth(int n) throws NoSuchElementException {
        if (n < 0 || n > Series.LAST) {
            throw new NoSuchElementException();
        }
        return series.term(n);
    }

    public long walks(int n, int tile) throws NoSuchElementException, IllegalArgumentException {
        needTile(tile);
        needWalkSteps(n);
        return n > plane.rim ? NONE : walker.endingAt(n, tile);
    }

    public long home(int n) throws IllegalArgumentException {
        needWalkSteps(n);
        return n > 2 * plane.rim ? NONE : walker.comingHome(n);
    }

    public long far(int n, int what) throws NoSuchElementException, IllegalArgumentException {
        if (what < 0 || what > 1) {
            throw new NoSuchElementException();
        }
        needWalkSteps(n);
        if (n > plane.rim) {
            return NONE;
        }
        long upper = walker.ringsTogether(n);
        long lower = walker.allWalks(n);
        long common = commonDivisor(upper, lower);
        if (common <= 0) {
            return NONE;
        }
        return (what == 0 ? upper : lower) / common;
    }

    public int walk(int tile, long row, int many) throws NoSuchElementException, IllegalArgumentException {
        needTile(tile);
        if (many < 0 || many > MOST_ROW_STEPS) {
            throw new IllegalArgumentException();
        }
        for (int i = 0; i < many; i++) {
            if (!plane.hasSide(figure(row, i))) {
                throw new IllegalArgumentException();
            }
        }
        int at = tile;
        for (int i = 0; i < many && at != NONE; i++) {
            at = plane.beyond(at, figure(row, i));
        }
        return at;
    }

    public int move(int tile, int other) throws NoSuchElementException {
        needTile(tile);
        needTile(other);
        return plane.byName(tile, other);
    }

    public int order(int tile) throws NoSuchElementException {
        needTile(tile);
        int at = 0;
        for (int times = 1; times <= MOST_TIMES && at != NONE; times++) {
            at = plane.byName(at, tile);
            if (at == 0) {
                return times;
            }
        }
        return NONE;
    }

    public int back(int tile) throws NoSuchElementException {
        needTile(tile);
        return plane.byNameFromEnd(tile);
    }

    public int apart(int tile, int other) throws NoSuchElementException {
        needTile(tile);
        needTile(other);
        int end = plane.byName(plane.byNameFromEnd(tile), other);
        return end == NONE ? NONE : plane.ringOfTile(end);
    }

    public int side(int side) throws NoSuchElementException {
        needSide(side);
        return plane.classOfSide(side);
    }

    public int closed(int n, int what) throws NoSuchElementException, IllegalArgumentException {
        if (what < 0 || what >= CLOSED_ANSWERS) {
            throw new NoSuchElementException();
        }
        needClosedSize(n);
        seeker.makeKnown(n);
        return seeker.answer(n, what);
    }

    public int first(int n, int side, int tile) throws NoSuchElementException, IllegalArgumentException {
        needClosedSize(n);
        needSide(side);
        seeker.makeKnown(n);
        if (tile < 0 || tile >= n || !seeker.hasFirst(n)) {
            throw new NoSuchElementException();
        }
        return seeker.firstAcross(n, side, tile);
    }

    public int steps(int steps) throws IllegalArgumentException {
        if (steps < 0 || steps > MOST_ANT_STEPS) {
            throw new IllegalArgumentException();
        }
        for (int made = 0; made < steps; made++) {
            if (!ant.goOn()) {
                refusedSteps++;
                return made;
            }
        }
        return steps;
    }

    public int ant(int what) throws NoSuchElementException {
        switch (what) {
            case 0:
                return ant.now.place;
            case 1:
                return ant.now.cameBy;
            case 2:
                return ant.now.undoable;
            case 3:
                return ant.now.redoable;
            default:
                throw new NoSuchElementException();
        }
    }

    public boolean undo() {
        return countedChange(ant.goBack());
    }

    public boolean redo() {
        return countedChange(ant.goAgain());
    }

    public void image() {
        ant.keep();
    }

    public boolean restore() {
        return ant.bringBack();
    }

    /** What the reader holds becomes the board, and all that hangs on a board begins again. */
    private void layAnew() {
        plane.lay(reader.corners, reader.sides);
        series.reckon(reader.corners, reader.sides);
        walker.forget();
        seeker.forget();
        ant.beginAnew(reader.turns, reader.colours);
    }

    private boolean countedChange(boolean changed) {
        if (!changed) {
            refusedChanges++;
        }
        return changed;
    }

    private void needTile(int tile) {
        if (!plane.hasTile(tile)) {
            throw new NoSuchElementException();
        }
    }

    private void needSide(int side) {
        if (!plane.hasSide(side)) {
            throw new NoSuchElementException();
        }
    }

    private void needWalkSteps(int n) {
        if (n < 0 || n > MOST_WALK_STEPS) {
            throw new IllegalArgumentException();
        }
    }

    private void needClosedSize(int n) {
        if (n < 1 || n > MOST_CLOSED) {
            throw new IllegalArgumentException();
        }
    }

    /** The i-th figure of a row to the base 8, the lowest being the 0-th. */
    private static int figure(long row, int i) {
        return (int) (row >>> (3 * i)) & 7;
    }

    private static long commonDivisor(long a, long b) {
        long greater = a;
        long lesser = b;
        // Euclid's steps on 64 bits are fewer than 100.
        for (int i = 0; i < 100 && lesser != 0; i++) {
            long rest = greater % lesser;
            greater = lesser;
            lesser = rest;
        }
        return greater;
    }

    private static int modulo(int number, int by) {
        return by > 0 ? Math.floorMod(number, by) : 0;
    }

    /** Bytes that wait to be read as a board. */
    private static final class Tape {
        private static final int FED_AT_ONCE = 20;

        private final int[] bytes;
        int held;

        Tape() {
            bytes = new int[MOST_BYTES];
        }

        boolean hasRoom() {
            return held + FED_AT_ONCE <= MOST_BYTES;
        }

        void put(int number) {
            for (int shift = 24; shift >= 0; shift -= 8) {
                if (held >= 0 && held < bytes.length) {
                    bytes[held] = (number >>> shift) & 255;
                    held++;
                }
            }
        }

        int byteAt(int i) {
            return i >= 0 && i < bytes.length ? bytes[i] : 0;
        }
    }

    /** Reads a text token by token; holds what it told, five corners of 2 at first. */
    private static final class Reader {
        static final int FAULTLESS = 0;
        private static final int MISPLACED = 1;
        private static final int TOO_MUCH = 2;
        private static final int NO_BOARD = 3;

        private static final int END = 0;
        private static final int WORD = 1;
        private static final int NUMBER = 2;
        private static final int SIGN = 3;
        private static final int STRANGE = 4;

        private static final int MOST_DIGITS = 3;
        private static final int ABOVE_ALL = 1000;
        /** Every corner divides it, so that shares of an angle can be summed as whole numbers. */
        private static final int WHOLE = 2520;

        private final Tape tape;
        final int[] corners;
        final int[] turns;
        int sides;
        int colours;
        int start;
        private int length;
        private int place;
        private int kind;
        private int value;

        Reader(Tape tape) {
            this.tape = tape;
            corners = new int[] {2, 2, 2, 2, 2, 0, 0, 0};
            turns = new int[MOST_COLOURS];
            sides = 5;
            colours = 1;
        }

        /** The fault of the tape's first bytes; its place is start. */
        int read(int many) {
            length = many;
            place = 0;
            takeToken();
            if (!isWord("corners")) {
                return MISPLACED;
            }
            int fault = readCorners();
            if (fault != FAULTLESS) {
                return fault;
            }
            takeToken();
            return kind == END ? antWithoutText() : readAnt();
        }

        private int readCorners() {
            sides = 0;
            takeToken();
            while (kind == NUMBER && sides <= MOST_SIDES) {
                if (sides >= corners.length || value == 1 || value > MOST_CORNER) {
                    return TOO_MUCH;
                }
                corners[sides] = value;
                sides++;
                takeToken();
            }
            if (kind != SIGN || sides < LEAST_SIDES) {
                return MISPLACED;
            }
            return isFar() ? FAULTLESS : NO_BOARD;
        }

        private boolean isFar() {
            int sum = 0;
            for (int i = 0; i < sides && i < corners.length; i++) {
                int corner = corners[i];
                if (corner != 0) {
                    sum += WHOLE / corner;
                }
            }
            return sum < WHOLE * (sides - 2);
        }

        private int antWithoutText() {
            colours = 1;
            turns[0] = 0;
            return FAULTLESS;
        }

        private int readAnt() {
            if (!isWord("ant")) {
                return MISPLACED;
            }
            colours = 0;
            takeToken();
            while (kind == NUMBER && colours <= MOST_COLOURS) {
                if (colours >= turns.length || value > MOST_TURN) {
                    return TOO_MUCH;
                }
                turns[colours] = value;
                colours++;
                takeToken();
            }
            if (kind != SIGN || colours == 0) {
                return MISPLACED;
            }
            takeToken();
            return kind == END ? FAULTLESS : MISPLACED;
        }

        private void takeToken() {
            while (place < length && isBlank(tape.byteAt(place))) {
                place++;
            }
            start = place;
            if (place >= length) {
                kind = END;
            } else if (isLetter(tape.byteAt(place))) {
                takeWord();
            } else if (isDigit(tape.byteAt(place))) {
                takeNumber();
            } else {
                kind = tape.byteAt(place) == ';' ? SIGN : STRANGE;
                place++;
            }
        }

        private void takeWord() {
            kind = WORD;
            while (place < length && isLetter(tape.byteAt(place))) {
                place++;
            }
        }

        private void takeNumber() {
            kind = NUMBER;
            value = 0;
            while (place < length && isDigit(tape.byteAt(place))) {
                value = place - start < MOST_DIGITS ? value * 10 + tape.byteAt(place) - '0' : ABOVE_ALL;
                place++;
            }
        }

        private boolean isWord(String word) {
            if (kind != WORD || place - start != word.length()) {
                return false;
            }
            for (int i = 0; i < word.length(); i++) {
                if (tape.byteAt(start + i) != word.charAt(i)) {
                    return false;
                }
            }
            return true;
        }

        private static boolean isBlank(int sign) {
            return sign == 32 || sign == 10;
        }

        private static boolean isLetter(int sign) {
            return sign >= 'a' && sign <= 'z';
        }

        private static boolean isDigit(int sign) {
            return sign >= '0' && sign <= '9';
        }
    }

    /** The numbered tiles of a board, ring by ring. */
    private static final class Plane {
        private final int[] corners;
        private final int[] classOf;
        private final int[] across;
        private final int[] ringOf;
        /** The last side of a tile's name: numbers are given in the order of names, so the tile
         *  across it is the one from which this tile was numbered, whose name is the rest. */
        private final int[] lastSide;
        private final long[] ways;
        private final int[] ringSize;
        private final int[] spelled;
        int sides;
        int tiles;
        int rim;
        int classes;

        Plane() {
            corners = new int[MOST_SIDES];
            classOf = new int[MOST_SIDES];
            across = new int[MOST_TILES * MOST_SIDES];
            ringOf = new int[MOST_TILES];
            lastSide = new int[MOST_TILES];
            ways = new long[MOST_TILES];
            ringSize = new int[MOST_RINGS];
            spelled = new int[MOST_RINGS];
        }

        void lay(int[] newCorners, int newSides) {
            sides = newSides;
            for (int i = 0; i < corners.length && i < newCorners.length; i++) {
                corners[i] = i < newSides ? newCorners[i] : 0;
            }
            sortClasses();
            beginAtHome();
            int from = 0;
            boolean hasRoom = true;
            for (int ring = 1; ring < ringSize.length && hasRoom; ring++) {
                int to = tiles;
                hasRoom = layRing(from, to);
                if (hasRoom) {
                    ringSize[ring] = tiles - to;
                    rim = ring;
                    from = to;
                } else {
                    takeBackRing(from, to);
                }
            }
        }

        boolean hasTile(int tile) {
            return tile >= 0 && tile < tiles;
        }

        boolean hasSide(int side) {
            return side >= 0 && side < sides;
        }

        /** The corner between a side and the next one. */
        int cornerBehind(int side) {
            return side >= 0 && side < corners.length ? corners[side] : 0;
        }

        int classOfSide(int side) {
            return side >= 0 && side < classOf.length ? classOf[side] : NONE;
        }

        /** The tile across a side, NONE if it has no number. */
        int beyond(int tile, int side) {
            // Asked most of all: what hasTile and hasSide ask stands here itself.
            if (tile < 0 || tile >= tiles || side < 0 || side >= sides) {
                return NONE;
            }
            int at = tile * MOST_SIDES + side;
            return at < across.length ? across[at] : NONE;
        }

        int ringOfTile(int tile) {
            return tile >= 0 && tile < ringOf.length ? ringOf[tile] : NONE;
        }

        int tilesOfRing(int ring) {
            return ring >= 0 && ring <= rim && ring < ringSize.length ? ringSize[ring] : 0;
        }

        long waysTo(int tile) {
            return tile >= 0 && tile < ways.length ? ways[tile] : 0;
        }

        boolean isLesser(int tile, int than) {
            return tile != NONE && ringOfTile(tile) < ringOfTile(than);
        }

        int lesserOf(int tile) {
            int lesser = 0;
            for (int side = 0; side < sides; side++) {
                if (isLesser(beyond(tile, side), tile)) {
                    lesser++;
                }
            }
            return lesser;
        }

        int neighboursOf(int tile) {
            int many = 0;
            for (int side = 0; side < sides; side++) {
                if (beyond(tile, side) != NONE) {
                    many++;
                }
            }
            return many;
        }

        int colourOf(int tile) {
            int colour = 0;
            int length = spell(tile);
            for (int i = 0; i < length; i++) {
                colour ^= 1 << classOfSide(spelledAt(i));
            }
            return colour;
        }

        int nameSide(int tile, int i) {
            spell(tile);
            return spelledAt(i);
        }

        /** Where the name of a tile leads from another one, NONE if it is lost. */
        int byName(int from, int named) {
            int at = from;
            int length = spell(named);
            for (int i = 0; i < length && at != NONE; i++) {
                at = beyond(at, spelledAt(i));
            }
            return at;
        }

        /** Where the name of a tile, read from its end, leads from home. */
        int byNameFromEnd(int named) {
            int at = 0;
            for (int i = spell(named) - 1; i >= 0 && at != NONE; i--) {
                at = beyond(at, spelledAt(i));
            }
            return at;
        }

        /** Writes a tile's name into spelled: its length. */
        private int spell(int tile) {
            int length = Math.min(ringOfTile(tile), spelled.length);
            int at = tile;
            for (int i = length - 1; i >= 0; i--) {
                int last = at >= 0 && at < lastSide.length ? lastSide[at] : 0;
                spelled[i] = last;
                at = beyond(at, last);
            }
            return length;
        }

        private int spelledAt(int i) {
            return i >= 0 && i < spelled.length ? spelled[i] : NONE;
        }

        /** Sides of one class are a row of neighbours, so only the last class can be the first one too. */
        private void sortClasses() {
            classes = 0;
            for (int side = 0; side < sides && side < classOf.length; side++) {
                if (side == 0 || !isOdd(cornerBehind(side - 1))) {
                    classes++;
                }
                classOf[side] = classes - 1;
            }
            if (classes > 1 && isOdd(cornerBehind(sides - 1))) {
                classes--;
                for (int side = 0; side < sides && side < classOf.length; side++) {
                    classOf[side] = classOf[side] == classes ? 0 : classOf[side];
                }
            }
        }

        private static boolean isOdd(int number) {
            return (number & 1) == 1;
        }

        private void beginAtHome() {
            tiles = 0;
            rim = 0;
            addTile(0, 0);
            ways[0] = 1;
            ringSize[0] = 1;
        }

        /** Numbers the ring beyond tiles from .. to less 1; false if there is no room for it. */
        private boolean layRing(int from, int to) {
            for (int tile = from; tile < to; tile++) {
                for (int side = 0; side < sides; side++) {
                    if (beyond(tile, side) == NONE) {
                        if (tiles >= MOST_TILES) {
                            return false;
                        }
                        numberBeyond(tile, side);
                    }
                }
            }
            return true;
        }

        private void takeBackRing(int from, int to) {
            tiles = to;
            for (int i = from * MOST_SIDES; i < to * MOST_SIDES && i < across.length; i++) {
                if (i >= 0 && across[i] >= to) {
                    across[i] = NONE;
                }
            }
        }

        private void numberBeyond(int tile, int side) {
            int added = tiles;
            addTile(ringOfTile(tile) + 1, side);
            join(tile, side, added);
            int before = modulo(side - 1, sides);
            joinRound(tile, side, modulo(side + 1, sides), cornerBehind(side));
            joinRound(tile, side, before, cornerBehind(before));
        }

        private void addTile(int ring, int side) {
            int tile = tiles;
            if (tile < 0 || tile >= ringOf.length || tile >= lastSide.length || tile >= ways.length) {
                return;
            }
            ringOf[tile] = ring;
            lastSide[tile] = side;
            ways[tile] = 0;
            tiles++;
            for (int i = 0; i < MOST_SIDES; i++) {
                setAcross(tile, i, NONE);
            }
        }

        /** Joins a tile with a new one of the next ring: all ways to the tile lead to the new one. */
        private void join(int tile, int side, int added) {
            setAcross(tile, side, added);
            setAcross(added, side, tile);
            if (added >= 0 && added < ways.length) {
                ways[added] += waysTo(tile);
            }
        }

        private void setAcross(int tile, int side, int other) {
            int at = tile * MOST_SIDES + side;
            if (at >= 0 && at < across.length) {
                across[at] = other;
            }
        }

        /** The tile across a side, the newest one, lies across the other side of a corner too, if
         *  going round that corner by the other side first leads down all the way. */
        private void joinRound(int tile, int side, int other, int corner) {
            int newest = tiles - 1;
            int at = tile;
            int by = other;
            for (int i = 1; i < corner; i++) {
                int to = beyond(at, by);
                if (!isLesser(to, at)) {
                    return;
                }
                at = to;
                by = side + other - by;
            }
            for (int i = 1; i < corner && at != NONE; i++) {
                at = beyond(at, by);
                by = side + other - by;
            }
            if (corner != 0 && at != NONE) {
                join(at, other, newest);
            }
        }
    }

    /** The numbers of growth, from the series 1 by D. */
    private static final class Series {
        static final int LAST = 60;
        private static final long LIMIT = 1_000_000_000_000_000L;

        private final long[] terms;
        private final long[] divisor;
        private final long[] part;
        private int known;

        Series() {
            terms = new long[LAST + 1];
            divisor = new long[LAST + 1];
            part = new long[LAST + 1];
        }

        long term(int n) {
            return n >= 0 && n < known && n < terms.length ? terms[n] : NONE;
        }

        void reckon(int[] corners, int sides) {
            beginDivisor(sides);
            for (int i = 0; i < sides && i < corners.length; i++) {
                if (corners[i] != 0) {
                    addCorner(corners[i]);
                }
            }
            divide();
        }

        /** 1, less sides by t by 1 / (1 + t). */
        private void beginDivisor(int sides) {
            divisor[0] = 1;
            for (int k = 1; k < divisor.length; k++) {
                divisor[k] = (k & 1) == 1 ? -sides : sides;
            }
        }

        private void addCorner(int corner) {
            for (int k = 0; k < part.length; k++) {
                part[k] = k == corner ? 1 : 0;
            }
            dividePartByOnes(2);
            dividePartByOnes(corner);
            for (int k = 0; k < part.length && k < divisor.length; k++) {
                divisor[k] += part[k];
            }
        }

        /** Divides part by 1 + t + .. of so many terms. */
        private void dividePartByOnes(int many) {
            for (int k = 0; k < part.length; k++) {
                for (int j = 1; j < many && j <= k; j++) {
                    part[k] -= part[k - j];
                }
            }
        }

        private void divide() {
            terms[0] = 1;
            known = 1;
            for (int k = 1; k < terms.length && k < divisor.length; k++) {
                long sum = 0;
                for (int j = 1; j <= k; j++) {
                    sum -= divisor[j] * terms[k - j];
                }
                if (sum > LIMIT) {
                    return;
                }
                terms[k] = sum;
                known = k + 1;
            }
        }
    }

    /** Counts walks from home by where they end, for one number of steps at a time. */
    private static final class Walker {
        private final Plane plane;
        private long[] ends;
        private long[] spare;
        private int steps;

        Walker(Plane plane) {
            this.plane = plane;
            ends = new long[MOST_TILES];
            spare = new long[MOST_TILES];
            steps = NONE;
        }

        void forget() {
            steps = NONE;
        }

        long endingAt(int n, int tile) {
            walkTo(n);
            return endsAt(tile);
        }

        /** A walk there and back is two walks of half as many steps to one tile; each step
         *  changes the ring by one, so that no walk of an odd number comes home. */
        long comingHome(int n) {
            if ((n & 1) == 1) {
                return 0;
            }
            walkTo(n / 2);
            long sum = 0;
            for (int tile = 0; tile < plane.tiles; tile++) {
                sum += endsAt(tile) * endsAt(tile);
            }
            return sum;
        }

        long ringsTogether(int n) {
            walkTo(n);
            long sum = 0;
            for (int tile = 0; tile < plane.tiles; tile++) {
                sum += endsAt(tile) * plane.ringOfTile(tile);
            }
            return sum;
        }

        long allWalks(int n) {
            long all = 1;
            for (int i = 0; i < n; i++) {
                all *= plane.sides;
            }
            return all;
        }

        private long endsAt(int tile) {
            return tile >= 0 && tile < ends.length ? ends[tile] : 0;
        }

        private void walkTo(int n) {
            if (steps == NONE || steps > n) {
                Arrays.fill(ends, 0);
                Arrays.fill(spare, 0);
                ends[0] = 1;
                steps = 0;
            }
            for (; steps < n; steps++) {
                walkOneMore(steps + 1);
            }
        }

        private void walkOneMore(int farthest) {
            for (int tile = 0; tile < plane.tiles && tile < spare.length; tile++) {
                if (plane.ringOfTile(tile) > farthest) {
                    break;
                }
                long sum = 0;
                for (int side = 0; side < plane.sides; side++) {
                    sum += endsAt(plane.beyond(tile, side));
                }
                spare[tile] = sum;
            }
            long[] old = ends;
            ends = spare;
            spare = old;
        }
    }

    /** All rows of so many numbers by which twice is back, the least first, and how two of them turn. */
    private static final class Rows {
        /** How many rows of six numbers there are. */
        static final int MOST = 76;

        private final int[] numbers;
        /** For each pair of rows: bit k is set, if going by both in turn some tile is itself again
         *  by k times and no fewer. */
        private final int[] laps;
        private final int[] partner;
        private final boolean[] alone;
        private int size;
        int many;

        Rows() {
            numbers = new int[MOST * MOST_CLOSED];
            laps = new int[MOST * MOST];
            alone = new boolean[MOST];
            partner = new int[MOST_CLOSED];
        }

        void list(int newSize) {
            if (newSize == size || newSize < 0 || newSize > MOST_CLOSED) {
                return;
            }
            size = newSize;
            many = 0;
            Arrays.fill(partner, NONE);
            pairUp(0);
            for (int one = 0; one < many; one++) {
                for (int other = 0; other < many; other++) {
                    setLaps(one, other);
                }
            }
        }

        /** The number that a row has at a tile. */
        int numberAt(int row, int tile) {
            int at = row * MOST_CLOSED + tile;
            return row >= 0 && tile >= 0 && tile < MOST_CLOSED && at < numbers.length ? numbers[at] : 0;
        }

        int lapsOf(int row, int other) {
            int at = row * MOST + other;
            return row >= 0 && other >= 0 && other < MOST && at < laps.length ? laps[at] : 0;
        }

        /** Whether a row has a tile lie across from itself. */
        boolean leavesAlone(int row) {
            return row >= 0 && row < alone.length && alone[row];
        }

        /** The first number without a partner gets each in turn, itself first: so rows come in order. */
        private void pairUp(int from) {
            int tile = from;
            while (tile < size && partnerOf(tile) != NONE) {
                tile++;
            }
            if (tile >= size) {
                writeRow();
                return;
            }
            for (int other = tile; other < size; other++) {
                if (partnerOf(other) == NONE) {
                    setPartners(tile, other, other, tile);
                    pairUp(tile + 1);
                    setPartners(tile, NONE, other, NONE);
                }
            }
        }

        private int partnerOf(int tile) {
            return tile >= 0 && tile < partner.length ? partner[tile] : 0;
        }

        private void setPartners(int tile, int itsPartner, int other, int otherPartner) {
            if (tile >= 0 && tile < partner.length && other >= 0 && other < partner.length) {
                partner[tile] = itsPartner;
                partner[other] = otherPartner;
            }
        }

        private void writeRow() {
            int at = many * MOST_CLOSED;
            if (at < 0 || at + MOST_CLOSED > numbers.length || many >= alone.length) {
                return;
            }
            alone[many] = false;
            for (int tile = 0; tile < partner.length && tile < MOST_CLOSED; tile++) {
                numbers[at + tile] = partner[tile];
                alone[many] |= partner[tile] == tile;
            }
            many++;
        }

        private void setLaps(int one, int other) {
            int set = 0;
            for (int tile = 0; tile < size; tile++) {
                set |= 1 << lap(one, other, tile);
            }
            int at = one * MOST + other;
            if (at >= 0 && at < laps.length) {
                laps[at] = set;
            }
        }

        private int lap(int one, int other, int tile) {
            int at = tile;
            for (int times = 1; times <= size; times++) {
                at = numberAt(other, numberAt(one, at));
                if (at == tile) {
                    return times;
                }
            }
            return 0;
        }
    }

    /** A closed board while it is put together, a row of numbers for each side. */
    private static final class Draft {
        /** For each corner: which numbers of times, of 1 to 6, don't divide it, as bits; none, if it is 0. */
        private static final int[] NOT_DIVIDING = {0, 124, 120, 116, 104, 92, 48, 124, 104, 116};
        private static final int ALL_TIMES = 126;

        private final Plane plane;
        private final Rows rows;
        private final int[] chosen;
        /** For each number of sides, for each tile: the tiles that hang together with it, as bits. */
        private final int[] groups;
        /** From where and by which side a tile is come to first. */
        private final int[] metFrom;
        private final int[] metBy;
        private final int[] noted;
        private int size;

        Draft(Plane plane, Rows rows) {
            this.plane = plane;
            this.rows = rows;
            chosen = new int[MOST_SIDES];
            groups = new int[(MOST_SIDES + 1) * MOST_CLOSED];
            metFrom = new int[MOST_CLOSED];
            metBy = new int[MOST_CLOSED];
            noted = new int[MOST_CLOSED];
        }

        void begin(int newSize) {
            size = newSize;
            for (int tile = 0; tile < size; tile++) {
                setGroup(0, tile, 1 << tile);
            }
        }

        void choose(int side, int row) {
            if (side >= 0 && side < chosen.length) {
                chosen[side] = row;
            }
        }

        int rowOf(int side) {
            return valueAt(chosen, side);
        }

        int lyingAcross(int side, int tile) {
            return rows.numberAt(valueAt(chosen, side), tile);
        }

        /** The laps that two rows must not have to go round a corner. */
        static int forbiddenAt(int corner) {
            return corner >= 0 && corner < NOT_DIVIDING.length ? NOT_DIVIDING[corner] : ALL_TIMES;
        }

        /** Whether the last side goes round its corner with side 0. */
        boolean closesUp() {
            int last = plane.sides - 1;
            return (rows.lapsOf(rowOf(last), rowOf(0)) & forbiddenAt(plane.cornerBehind(last))) == 0;
        }

        /** Tells which tiles hang together by the sides up to this one. */
        void link(int side) {
            int whole = (1 << size) - 1;
            if (groupOf(side, 0) == whole) {
                setGroup(side + 1, 0, whole);
                return;
            }
            for (int tile = 0; tile < size; tile++) {
                setGroup(side + 1, tile, groupOf(side, tile));
            }
            for (int tile = 0; tile < size; tile++) {
                int joined = groupOf(side + 1, tile) | groupOf(side + 1, lyingAcross(side, tile));
                for (int other = 0; other < size; other++) {
                    if ((joined >> other & 1) == 1) {
                        setGroup(side + 1, other, joined);
                    }
                }
            }
        }

        boolean hangsTogether() {
            return groupOf(plane.sides, 0) == (1 << size) - 1;
        }

        boolean isSmooth() {
            for (int side = 0; side < plane.sides; side++) {
                if (rows.leavesAlone(rowOf(side))) {
                    return false;
                }
            }
            for (int side = 0; side < plane.sides; side++) {
                int corner = plane.cornerBehind(side);
                int next = modulo(side + 1, plane.sides);
                if (corner != 0 && rows.lapsOf(rowOf(side), rowOf(next)) != 1 << corner) {
                    return false;
                }
            }
            return true;
        }

        /** Whether tiles are come to from tile 0, side by side, in the order of their numbers. */
        boolean isNumberedAsMet() {
            int many = 1;
            for (int from = 0; from < many && many < size; from++) {
                for (int side = 0; side < plane.sides; side++) {
                    int to = lyingAcross(side, from);
                    if (to > many) {
                        return false;
                    }
                    if (to == many && many < metFrom.length && many < metBy.length) {
                        metFrom[many] = from;
                        metBy[many] = side;
                        many++;
                    }
                }
            }
            return many == size;
        }

        /** By how many changes of its numbers a board that is numbered as it is met stays as it is:
         *  where tile 0 goes tells where all go. */
        int ownLikenesses() {
            int many = 0;
            for (int image = 0; image < size; image++) {
                note(0, image);
                for (int tile = 1; tile < size; tile++) {
                    int from = valueAt(noted, valueAt(metFrom, tile));
                    note(tile, lyingAcross(valueAt(metBy, tile), from));
                }
                if (isLikeAsNoted()) {
                    many++;
                }
            }
            return many;
        }

        private boolean isLikeAsNoted() {
            for (int side = 0; side < plane.sides; side++) {
                for (int tile = 0; tile < size; tile++) {
                    int there = valueAt(noted, lyingAcross(side, tile));
                    if (there != lyingAcross(side, valueAt(noted, tile))) {
                        return false;
                    }
                }
            }
            return true;
        }

        /** Handles of a smooth board, NONE if it has none. */
        int handles() {
            noteSorts();
            if (!sortsLieApart()) {
                return NONE;
            }
            int twice = 2 - size + size * plane.sides / 2;
            for (int side = 0; side < plane.sides; side++) {
                int corner = plane.cornerBehind(side);
                if (corner == 0) {
                    return NONE;
                }
                twice -= size / (2 * corner);
            }
            return twice / 2;
        }

        /** Gives tile 0 a sort, and the other one to all that lie across from it, and so on. */
        private void noteSorts() {
            for (int tile = 0; tile < size; tile++) {
                note(tile, tile == 0 ? 0 : NONE);
            }
            for (int times = 0; times < size; times++) {
                for (int side = 0; side < plane.sides; side++) {
                    for (int tile = 0; tile < size; tile++) {
                        int other = lyingAcross(side, tile);
                        if (valueAt(noted, tile) != NONE && valueAt(noted, other) == NONE) {
                            note(other, 1 - valueAt(noted, tile));
                        }
                    }
                }
            }
        }

        private boolean sortsLieApart() {
            for (int side = 0; side < plane.sides; side++) {
                for (int tile = 0; tile < size; tile++) {
                    if (valueAt(noted, lyingAcross(side, tile)) == valueAt(noted, tile)) {
                        return false;
                    }
                }
            }
            return true;
        }

        private int groupOf(int sides, int tile) {
            return valueAt(groups, sides * MOST_CLOSED + tile);
        }

        private void setGroup(int sides, int tile, int group) {
            int at = sides * MOST_CLOSED + tile;
            if (at >= 0 && at < groups.length) {
                groups[at] = group;
            }
        }

        private void note(int tile, int value) {
            if (tile >= 0 && tile < noted.length) {
                noted[tile] = value;
            }
        }

        private static int valueAt(int[] values, int i) {
            return i >= 0 && i < values.length ? values[i] : 0;
        }
    }

    /** Seeks the closed boards of few tiles; what was found stays known until the board changes. */
    private static final class Seeker {
        private static final int MOST_TRIES = 300_000;
        private static final int HOW_MANY = 0;
        private static final int SMOOTH = 1;
        private static final int UNLIKE = 2;
        private static final int HANDLES = 3;
        private static final int TRIES = 4;

        private final Plane plane;
        private final Rows rows;
        private final Draft draft;
        private final long[] endingIn;
        private final long[] nextEndingIn;
        private final boolean[] known;
        private final boolean[] firstKnown;
        private final int[] answers;
        private final int[] firsts;
        private int found;
        private int smooth;
        private int likenesses;

        Seeker(Plane plane) {
            this.plane = plane;
            rows = new Rows();
            draft = new Draft(plane, rows);
            endingIn = new long[Rows.MOST];
            nextEndingIn = new long[Rows.MOST];
            known = new boolean[MOST_CLOSED + 1];
            firstKnown = new boolean[MOST_CLOSED + 1];
            answers = new int[(MOST_CLOSED + 1) * CLOSED_ANSWERS];
            firsts = new int[(MOST_CLOSED + 1) * MOST_SIDES * MOST_CLOSED];
        }

        void forget() {
            for (int size = 0; size < known.length; size++) {
                known[size] = false;
            }
        }

        int answer(int size, int what) {
            int at = size * CLOSED_ANSWERS + what;
            return at >= 0 && at < answers.length ? answers[at] : NONE;
        }

        boolean hasFirst(int size) {
            return size >= 0 && size < firstKnown.length && firstKnown[size];
        }

        int firstAcross(int size, int side, int tile) {
            int at = firstPlace(size, side, tile);
            return at >= 0 && at < firsts.length ? firsts[at] : NONE;
        }

        private static int firstPlace(int size, int side, int tile) {
            return (size * MOST_SIDES + side) * MOST_CLOSED + tile;
        }

        /** Seeks the boards of so many tiles, unless that was done since the board was laid. */
        void makeKnown(int size) {
            if (size < 1 || size >= known.length || size >= firstKnown.length || known[size]) {
                return;
            }
            known[size] = true;
            firstKnown[size] = false;
            rows.list(size);
            draft.begin(size);
            int tries = reckonTries();
            if (tries > MOST_TRIES) {
                for (int what = 0; what < CLOSED_ANSWERS; what++) {
                    setAnswer(size, what, SPENT);
                }
                return;
            }
            found = 0;
            smooth = 0;
            likenesses = 0;
            setAnswer(size, HANDLES, NONE);
            seek(0, size);
            setAnswer(size, HOW_MANY, found);
            setAnswer(size, SMOOTH, smooth);
            // A sort of n tiles shows n / likenesses boards that are numbered as they are met.
            setAnswer(size, UNLIKE, likenesses / size);
            setAnswer(size, TRIES, tries);
        }

        /** Tries depend only on how many drafts stand after each side: counted ahead of seeking,
         *  so that a search that would be spent is never begun. */
        private int reckonTries() {
            Arrays.fill(endingIn, 1);
            long drafts = 1;
            long tries = 0;
            for (int side = 0; side < plane.sides; side++) {
                tries += drafts * rows.many;
                if (tries > MOST_TRIES) {
                    return MOST_TRIES + 1;
                }
                drafts = side == 0 ? rows.many : draftsWith(plane.cornerBehind(side - 1));
            }
            return (int) tries;
        }

        /** One more side is put to all drafts that stand: how many stand then. */
        private long draftsWith(int corner) {
            int forbidden = Draft.forbiddenAt(corner);
            long sum = 0;
            for (int row = 0; row < rows.many && row < nextEndingIn.length; row++) {
                long ending = 0;
                for (int ahead = 0; ahead < rows.many && ahead < endingIn.length; ahead++) {
                    if ((rows.lapsOf(ahead, row) & forbidden) == 0) {
                        ending += endingIn[ahead];
                    }
                }
                nextEndingIn[row] = ending;
                sum += ending;
            }
            System.arraycopy(nextEndingIn, 0, endingIn, 0, Rows.MOST);
            return sum;
        }

        private void seek(int side, int size) {
            if (side >= plane.sides) {
                weigh(size);
                return;
            }
            int ahead = draft.rowOf(side - 1);
            int forbidden = side == 0 ? 0 : Draft.forbiddenAt(plane.cornerBehind(side - 1));
            for (int row = 0; row < rows.many; row++) {
                if ((rows.lapsOf(ahead, row) & forbidden) == 0) {
                    draft.choose(side, row);
                    if (side < plane.sides - 1 || draft.closesUp()) {
                        draft.link(side);
                        seek(side + 1, size);
                    }
                }
            }
        }

        private void weigh(int size) {
            if (!draft.hangsTogether()) {
                return;
            }
            found++;
            if (draft.isNumberedAsMet()) {
                likenesses += draft.ownLikenesses();
            }
            if (draft.isSmooth()) {
                if (smooth == 0) {
                    keepFirst(size);
                    setAnswer(size, HANDLES, draft.handles());
                }
                smooth++;
            }
        }

        private void keepFirst(int size) {
            if (size >= 0 && size < firstKnown.length) {
                firstKnown[size] = true;
            }
            for (int side = 0; side < plane.sides; side++) {
                for (int tile = 0; tile < size; tile++) {
                    int at = firstPlace(size, side, tile);
                    if (at >= 0 && at < firsts.length) {
                        firsts[at] = draft.lyingAcross(side, tile);
                    }
                }
            }
        }

        private void setAnswer(int size, int what, int value) {
            int at = size * CLOSED_ANSWERS + what;
            if (at >= 0 && at < answers.length) {
                answers[at] = value;
            }
        }
    }

    /** Where the ant stands, what it painted, and how many steps lie behind and ahead of it. */
    private static final class Stand {
        private final int[] paint;
        int place;
        int cameBy;
        int undoable;
        int redoable;

        Stand() {
            paint = new int[MOST_TILES];
        }

        void clear() {
            Arrays.fill(paint, 0);
            place = 0;
            cameBy = 0;
            undoable = 0;
            redoable = 0;
        }

        void copyFrom(Stand other) {
            System.arraycopy(other.paint, 0, paint, 0, MOST_TILES);
            place = other.place;
            cameBy = other.cameBy;
            undoable = other.undoable;
            redoable = other.redoable;
        }

        int paintOn(int tile) {
            return tile >= 0 && tile < paint.length ? paint[tile] : 0;
        }

        void setPaint(int tile, int colour) {
            if (tile >= 0 && tile < paint.length) {
                paint[tile] = colour;
            }
        }
    }

    /** The ant. A step follows from where it stands alone, and so does the one that led there:
     *  steps are undone and done again by reckoning, and only their numbers are kept. */
    private static final class Ant {
        private static final int MOST_UNDONE = 1000;

        private final Plane plane;
        private final int[] turns;
        final Stand now;
        private final Stand kept;
        private boolean hasKept;
        int colours;

        Ant(Plane plane) {
            this.plane = plane;
            turns = new int[MOST_COLOURS];
            now = new Stand();
            kept = new Stand();
        }

        void beginAnew(int[] newTurns, int newColours) {
            colours = newColours;
            for (int i = 0; i < turns.length && i < newTurns.length; i++) {
                turns[i] = newTurns[i];
            }
            now.clear();
            hasKept = false;
        }

        int paintOn(int tile) {
            return now.paintOn(tile);
        }

        /** A new step: false if it can't be. */
        boolean goOn() {
            if (!stepAhead()) {
                return false;
            }
            now.undoable = Math.min(now.undoable + 1, MOST_UNDONE);
            now.redoable = 0;
            return true;
        }

        boolean goBack() {
            int from = plane.beyond(now.place, now.cameBy);
            if (now.undoable == 0 || from == NONE) {
                return false;
            }
            int colour = modulo(now.paintOn(from) - 1, colours);
            now.setPaint(from, colour);
            now.place = from;
            now.cameBy = modulo(now.cameBy - turnOf(colour), plane.sides);
            now.undoable--;
            now.redoable++;
            return true;
        }

        boolean goAgain() {
            if (now.redoable == 0 || !stepAhead()) {
                return false;
            }
            now.undoable++;
            now.redoable--;
            return true;
        }

        void keep() {
            kept.copyFrom(now);
            hasKept = true;
        }

        boolean bringBack() {
            if (hasKept) {
                now.copyFrom(kept);
            }
            return hasKept;
        }

        private boolean stepAhead() {
            int colour = now.paintOn(now.place);
            int leaving = modulo(now.cameBy + turnOf(colour), plane.sides);
            int to = plane.beyond(now.place, leaving);
            if (to == NONE) {
                return false;
            }
            now.setPaint(now.place, modulo(colour + 1, colours));
            now.place = to;
            now.cameBy = leaving;
            return true;
        }

        private int turnOf(int colour) {
            return colour >= 0 && colour < turns.length ? turns[colour] : 0;
        }
    }
}
