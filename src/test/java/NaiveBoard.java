import java.math.BigInteger;
import java.util.ArrayDeque;
import java.util.ArrayList;
import java.util.Arrays;
import java.util.Deque;
import java.util.HashMap;
import java.util.HashSet;
import java.util.List;
import java.util.Map;
import java.util.NoSuchElementException;
import java.util.Set;

/**
 * The document once more, slowly and by other ways than the program: tiles are told apart by the
 * reflections that lead to them (matrices over a prime field), names by comparing all least rows,
 * closed boards by a search with a counter, the ant's steps by keeping what was.
 */
final class NaiveBoard {
    private static final int NONE = -1;
    private static final long PRIME = primeOneAbove(5040, 1L << 30);
    private static final long ROOT = rootOf5040();

    private byte[] tape = new byte[0];
    private int faultPlace = NONE;
    private final int[] status = new int[3];
    private int[] corners;
    private int[] turns;

    private List<long[]> matrices;
    private List<String> names;
    private List<int[]> across;
    private int rim;
    private final Map<Integer, Closed> closedBoards = new HashMap<>();

    private int[] paint;
    private int ant;
    private int cameBy;
    private List<int[]> done;
    private List<int[]> undone;
    private Runnable image;

    NaiveBoard() {
        begin(new int[] {2, 2, 2, 2, 2}, new int[] {0});
    }

    private void begin(int[] newCorners, int[] newTurns) {
        corners = newCorners;
        turns = newTurns;
        layTiles();
        closedBoards.clear();
        paint = new int[names.size()];
        ant = 0;
        cameBy = 0;
        done = new ArrayList<>();
        undone = new ArrayList<>();
        image = null;
    }

    // The text

    int feed(int... five) {
        if (tape.length + 20 > 200) {
            return NONE;
        }
        byte[] longer = Arrays.copyOf(tape, tape.length + 20);
        for (int i = 0; i < 20; i++) {
            longer[tape.length + i] = (byte) (five[i / 4] >> 8 * (3 - i % 4));
        }
        tape = longer;
        return tape.length;
    }

    int board(int n) {
        if (n < 0 || n > tape.length) {
            throw new IllegalArgumentException();
        }
        StringBuilder text = new StringBuilder();
        for (int i = 0; i < n; i++) {
            text.append((char) (tape[i] & 255));
        }
        tape = new byte[0];
        int[] fault = read(text.toString());
        faultPlace = fault[1];
        status[0] += fault[0] == 0 ? 0 : 1;
        return fault[0];
    }

    /** Fault and place. */
    private int[] read(String text) {
        List<String> tokens = new ArrayList<>();
        List<Integer> places = new ArrayList<>();
        java.util.regex.Matcher matcher =
                java.util.regex.Pattern.compile("[ \n]+|([a-z]+|[0-9]+|.)", java.util.regex.Pattern.DOTALL).matcher(text);
        while (matcher.find()) {
            if (matcher.group(1) != null) {
                tokens.add(matcher.group(1));
                places.add(matcher.start());
            }
        }
        tokens.add("");
        places.add(text.length());
        List<Integer> cornerList = new ArrayList<>();
        List<Integer> turnList = new ArrayList<>();
        String state = "start";
        for (int i = 0; i < tokens.size(); i++) {
            String token = tokens.get(i);
            boolean number = token.matches("[0-9]+");
            int fault = 0;
            switch (state) {
                case "start":
                    fault = token.equals("corners") ? 0 : 1;
                    state = "corners";
                    break;
                case "corners":
                    if (number) {
                        fault = cornerFault(token, cornerList);
                    } else if (token.equals(";") && cornerList.size() >= 3) {
                        fault = makesBoard(cornerList) ? 0 : 3;
                        state = "ant";
                    } else {
                        fault = 1;
                    }
                    break;
                case "ant":
                    if (token.isEmpty()) {
                        turnList.add(0);
                    } else {
                        fault = token.equals("ant") ? 0 : 1;
                    }
                    state = "turns";
                    break;
                case "turns":
                    if (number) {
                        fault = turnFault(token, turnList);
                    } else {
                        fault = token.equals(";") && !turnList.isEmpty() ? 0 : 1;
                        state = "end";
                    }
                    break;
                default:
                    fault = token.isEmpty() ? 0 : 1;
            }
            if (fault != 0) {
                return new int[] {fault, places.get(i)};
            }
        }
        begin(ints(cornerList), ints(turnList));
        return new int[] {0, NONE};
    }

    private static int[] ints(List<Integer> list) {
        return list.stream().mapToInt(i -> i).toArray();
    }

    private static int cornerFault(String token, List<Integer> list) {
        if (token.length() > 3 || list.size() == 8 || "023456789".indexOf("" + Integer.parseInt(token)) < 0) {
            return 2;
        }
        list.add(Integer.parseInt(token));
        return 0;
    }

    private static int turnFault(String token, List<Integer> list) {
        if (token.length() > 3 || list.size() == 8 || Integer.parseInt(token) > 7) {
            return 2;
        }
        list.add(Integer.parseInt(token));
        return 0;
    }

    private static boolean makesBoard(List<Integer> list) {
        BigInteger upper = BigInteger.ZERO;
        BigInteger lower = BigInteger.ONE;
        for (int corner : list) {
            if (corner != 0) {
                upper = upper.multiply(BigInteger.valueOf(corner)).add(lower);
                lower = lower.multiply(BigInteger.valueOf(corner));
            }
        }
        return upper.compareTo(lower.multiply(BigInteger.valueOf(list.size() - 2))) < 0;
    }

    int fault() {
        return faultPlace;
    }

    // Tiles

    private static long primeOneAbove(long step, long least) {
        long candidate = least / step * step + 1;
        while (!BigInteger.valueOf(candidate).isProbablePrime(40)) {
            candidate += step;
        }
        return candidate;
    }

    private static long power(long base, long exponent) {
        return BigInteger.valueOf(base).modPow(BigInteger.valueOf(exponent), BigInteger.valueOf(PRIME)).longValue();
    }

    /** A number whose powers are 1 first at 5040: all cosines come from this one, so that they fit together. */
    private static long rootOf5040() {
        for (long base = 2;; base++) {
            long root = power(base, (PRIME - 1) / 5040);
            boolean primitive = true;
            for (int factor : new int[] {2, 3, 5, 7}) {
                primitive &= power(root, 5040 / factor) != 1;
            }
            if (primitive) {
                return root;
            }
        }
    }

    /** Twice the cosine of a half turn by m, in the field. */
    private static long twiceCosine(int m) {
        long root = power(ROOT, 5040 / (2 * m));
        return (root + power(root, PRIME - 2)) % PRIME;
    }

    private int cornerOf(int a, int b) {
        int p = corners.length;
        if ((a + 1) % p == b) {
            return corners[a];
        }
        return (b + 1) % p == a ? corners[b] : 0;
    }

    /** For sides a and b: twice their form. */
    private long[][] form() {
        int p = corners.length;
        Map<Integer, Long> cosines = new HashMap<>();
        long[][] form = new long[p][p];
        for (int a = 0; a < p; a++) {
            for (int b = 0; b < p; b++) {
                int corner = cornerOf(a, b);
                if (a == b) {
                    form[a][b] = 2;
                } else if (corner == 0) {
                    form[a][b] = PRIME - 2;
                } else {
                    form[a][b] = (PRIME - cosines.computeIfAbsent(corner, NaiveBoard::twiceCosine)) % PRIME;
                }
            }
        }
        return form;
    }

    /** The matrix of a tile's place followed by the reflection of a side. */
    private static long[] reflected(long[] matrix, int side, long[][] form) {
        int p = form.length;
        long[] result = matrix.clone();
        for (int row = 0; row < p; row++) {
            for (int column = 0; column < p; column++) {
                long less = form[side][column] * matrix[row * p + side] % PRIME;
                result[row * p + column] = (matrix[row * p + column] - less + PRIME) % PRIME;
            }
        }
        return result;
    }

    private static String key(long[] matrix) {
        return Arrays.toString(matrix);
    }

    private void layTiles() {
        int p = corners.length;
        long[][] form = form();
        long[] one = new long[p * p];
        for (int i = 0; i < p; i++) {
            one[i * p + i] = 1;
        }
        matrices = new ArrayList<>(List.of(one));
        Map<String, Integer> numbers = new HashMap<>(Map.of(key(one), 0));
        List<Integer> rings = new ArrayList<>(List.of(0));
        for (int from = 0, ring = 1;; ring++) {
            int to = matrices.size();
            Map<String, Integer> added = new HashMap<>();
            List<long[]> more = new ArrayList<>();
            for (int tile = from; tile < to; tile++) {
                for (int side = 0; side < p; side++) {
                    long[] next = reflected(matrices.get(tile), side, form);
                    String key = key(next);
                    if (!numbers.containsKey(key) && !added.containsKey(key)) {
                        added.put(key, to + more.size());
                        more.add(next);
                    }
                }
            }
            if (to + more.size() > 2000) {
                rim = ring - 1;
                break;
            }
            matrices.addAll(more);
            numbers.putAll(added);
            from = to;
        }
        across = new ArrayList<>();
        for (long[] matrix : matrices) {
            int[] row = new int[p];
            for (int side = 0; side < p; side++) {
                row[side] = numbers.getOrDefault(key(reflected(matrix, side, form)), NONE);
            }
            across.add(row);
        }
        nameTiles();
    }

    /** Names by distances found anew: of all neighbours one step nearer, the least name and the side. */
    private void nameTiles() {
        int many = across.size();
        int[] distance = new int[many];
        Arrays.fill(distance, NONE);
        distance[0] = 0;
        Deque<Integer> queue = new ArrayDeque<>(List.of(0));
        List<Integer> order = new ArrayList<>();
        while (!queue.isEmpty()) {
            int tile = queue.poll();
            order.add(tile);
            for (int to : across.get(tile)) {
                if (to != NONE && distance[to] == NONE) {
                    distance[to] = distance[tile] + 1;
                    queue.add(to);
                }
            }
        }
        String[] found = new String[many];
        found[0] = "";
        for (int tile : order) {
            for (int side = 0; side < corners.length; side++) {
                int to = across.get(tile)[side];
                if (to != NONE && distance[to] < distance[tile]) {
                    String name = found[to] + side;
                    found[tile] = found[tile] == null || name.compareTo(found[tile]) < 0 ? name : found[tile];
                }
            }
        }
        names = Arrays.asList(found);
    }

    private void needTile(int tile) {
        if (tile < 0 || tile >= names.size()) {
            throw new NoSuchElementException();
        }
    }

    private void needSide(int side) {
        if (side < 0 || side >= corners.length) {
            throw new NoSuchElementException();
        }
    }

    int count(int what) {
        int[] counts = {corners.length, names.size(), rim, turns.length,
            (int) Arrays.stream(classes()).distinct().count(), tape.length, status[0], status[1], status[2]};
        if (what < 0 || what >= counts.length) {
            throw new NoSuchElementException();
        }
        return counts[what];
    }

    int corner(int corner) {
        needSide(corner);
        return corners[corner];
    }

    /** Of each side the number of its class, by joining until nothing changes. */
    private int[] classes() {
        int p = corners.length;
        int[] least = new int[p];
        for (int i = 0; i < p; i++) {
            least[i] = i;
        }
        for (int again = 0; again < p; again++) {
            for (int i = 0; i < p; i++) {
                int j = (i + 1) % p;
                if (corners[i] % 2 == 1) {
                    least[i] = least[j] = Math.min(least[i], least[j]);
                }
            }
        }
        int[] sorted = Arrays.stream(least).distinct().sorted().toArray();
        return Arrays.stream(least).map(l -> Arrays.binarySearch(sorted, l)).toArray();
    }

    int tile(int tile, int what) {
        needTile(tile);
        if (what < 0 || what > 4) {
            throw new NoSuchElementException();
        }
        int lesser = 0;
        int numbered = 0;
        for (int to : across.get(tile)) {
            lesser += to != NONE && names.get(to).length() < names.get(tile).length() ? 1 : 0;
            numbered += to != NONE ? 1 : 0;
        }
        int colour = 0;
        int[] classes = classes();
        for (char side : names.get(tile).toCharArray()) {
            colour ^= 1 << classes[side - '0'];
        }
        return new int[] {names.get(tile).length(), lesser, colour, paint[tile], numbered}[what];
    }

    int across(int tile, int side) {
        needTile(tile);
        needSide(side);
        return across.get(tile)[side];
    }

    int name(int tile, int i) {
        needTile(tile);
        if (i < 0 || i >= names.get(tile).length()) {
            throw new NoSuchElementException();
        }
        return names.get(tile).charAt(i) - '0';
    }

    long ways(int tile) {
        needTile(tile);
        return ways(tile, new HashMap<>());
    }

    private long ways(int tile, Map<Integer, Long> known) {
        if (tile == 0) {
            return 1;
        }
        Long old = known.get(tile);
        if (old != null) {
            return old;
        }
        long sum = 0;
        for (int to : across.get(tile)) {
            if (to != NONE && names.get(to).length() < names.get(tile).length()) {
                sum += ways(to, known);
            }
        }
        known.put(tile, sum);
        return sum;
    }

    int ring(int ring) {
        if (ring < 0) {
            throw new NoSuchElementException();
        }
        return (int) names.stream().filter(name -> name.length() == ring).count();
    }

    // Growth and walks

    private static BigInteger[] times(BigInteger[] a, BigInteger[] b) {
        BigInteger[] result = new BigInteger[61];
        Arrays.fill(result, BigInteger.ZERO);
        for (int i = 0; i <= 60; i++) {
            for (int j = 0; i + j <= 60; j++) {
                result[i + j] = result[i + j].add(a[i].multiply(b[j]));
            }
        }
        return result;
    }

    /** 1 by a series that begins with 1. */
    private static BigInteger[] inverse(BigInteger[] a) {
        BigInteger[] result = new BigInteger[61];
        for (int k = 0; k <= 60; k++) {
            result[k] = k == 0 ? BigInteger.ONE : BigInteger.ZERO;
            for (int j = 1; j <= k; j++) {
                result[k] = result[k].subtract(a[j].multiply(result[k - j]));
            }
        }
        return result;
    }

    /** A series with the same term at places from .. to. */
    private static BigInteger[] same(long term, int from, int to) {
        BigInteger[] result = new BigInteger[61];
        for (int k = 0; k <= 60; k++) {
            result[k] = BigInteger.valueOf(k >= from && k <= to ? term : 0);
        }
        return result;
    }

    long growth(int n) {
        if (n < 0 || n > 60) {
            throw new NoSuchElementException();
        }
        BigInteger[] byOneAndT = inverse(same(1, 0, 1));
        BigInteger[] divisor = times(same(-corners.length, 1, 1), byOneAndT);
        divisor[0] = divisor[0].add(BigInteger.ONE);
        for (int corner : corners) {
            if (corner != 0) {
                BigInteger[] part = times(times(same(1, corner, corner), byOneAndT), inverse(same(1, 0, corner - 1)));
                for (int k = 0; k <= 60; k++) {
                    divisor[k] = divisor[k].add(part[k]);
                }
            }
        }
        BigInteger[] numbers = inverse(divisor);
        for (int k = 0; k <= n; k++) {
            if (numbers[k].compareTo(BigInteger.TEN.pow(15)) > 0) {
                return NONE;
            }
        }
        return numbers[n].longValueExact();
    }

    private long[] ends(int n) {
        long[] now = new long[names.size()];
        now[0] = 1;
        for (int i = 0; i < n; i++) {
            long[] next = new long[now.length];
            for (int tile = 0; tile < now.length; tile++) {
                for (int to : across.get(tile)) {
                    if (to != NONE) {
                        next[to] += now[tile];
                    }
                }
            }
            now = next;
        }
        return now;
    }

    private static void needSteps(int n) {
        if (n < 0 || n > 16) {
            throw new IllegalArgumentException();
        }
    }

    long walks(int n, int tile) {
        needTile(tile);
        needSteps(n);
        return n > rim ? NONE : ends(n)[tile];
    }

    long home(int n) {
        needSteps(n);
        return n > 2 * rim ? NONE : ends(n)[0];
    }

    long far(int n, int what) {
        if (what != 0 && what != 1) {
            throw new NoSuchElementException();
        }
        needSteps(n);
        if (n > rim) {
            return NONE;
        }
        long[] ends = ends(n);
        BigInteger upper = BigInteger.ZERO;
        for (int tile = 0; tile < ends.length; tile++) {
            upper = upper.add(BigInteger.valueOf(ends[tile]).multiply(BigInteger.valueOf(names.get(tile).length())));
        }
        BigInteger lower = BigInteger.valueOf(corners.length).pow(n);
        return (what == 0 ? upper : lower).divide(upper.gcd(lower)).longValueExact();
    }

    // Moves

    private int walkName(int from, String name) {
        int at = from;
        for (char side : name.toCharArray()) {
            at = at == NONE ? NONE : across.get(at)[side - '0'];
        }
        return at;
    }

    int walk(int tile, long row, int many) {
        needTile(tile);
        if (many < 0 || many > 20) {
            throw new IllegalArgumentException();
        }
        StringBuilder sides = new StringBuilder();
        BigInteger rest = BigInteger.valueOf(row);
        for (int i = 0; i < many; i++) {
            int side = rest.mod(BigInteger.valueOf(8)).intValue();
            rest = rest.shiftRight(3);
            if (side >= corners.length) {
                throw new IllegalArgumentException();
            }
            sides.append(side);
        }
        return walkName(tile, sides.toString());
    }

    int move(int tile, int other) {
        needTile(tile);
        needTile(other);
        return walkName(tile, names.get(other));
    }

    int order(int tile) {
        needTile(tile);
        int at = 0;
        for (int times = 1; times <= 60; times++) {
            at = at == NONE ? NONE : walkName(at, names.get(tile));
            if (at == 0) {
                return times;
            }
        }
        return NONE;
    }

    int back(int tile) {
        needTile(tile);
        return walkName(0, new StringBuilder(names.get(tile)).reverse().toString());
    }

    int apart(int tile, int other) {
        needTile(other);
        int end = walkName(back(tile), names.get(other));
        return end == NONE ? NONE : names.get(end).length();
    }

    int side(int side) {
        needSide(side);
        return classes()[side];
    }

    // Closed boards

    /** One search, by the words of the document. */
    private final class Closed {
        private final int n;
        private final List<int[]> rows = new ArrayList<>();
        private final int[][] chosen = new int[corners.length][];
        private final Set<String> labelled = new HashSet<>();
        private int tries;
        private int found;
        private int smooth;
        private int unlike;
        private int handles = NONE;
        private int[][] first;
        private boolean spent;

        Closed(int n) {
            this.n = n;
            int all = (int) Math.pow(n, n);
            for (int i = 0; i < all; i++) {
                int[] row = new int[n];
                for (int k = n - 1, rest = i; k >= 0; k--, rest /= n) {
                    row[k] = rest % n;
                }
                boolean twiceIsBack = true;
                for (int k = 0; k < n; k++) {
                    twiceIsBack &= row[row[k]] == k;
                }
                if (twiceIsBack) {
                    rows.add(row);
                }
            }
            seek(0);
        }

        private void seek(int side) {
            if (side == corners.length) {
                weigh();
                return;
            }
            for (int[] row : rows) {
                if (spent || ++tries > 300_000) {
                    spent = true;
                    return;
                }
                chosen[side] = row;
                boolean fits = side == 0 || goesRound(side - 1, side);
                if (fits && (side < corners.length - 1 || goesRound(side, 0))) {
                    seek(side + 1);
                }
            }
        }

        private boolean goesRound(int a, int b) {
            for (int tile = 0; tile < n && corners[a] != 0; tile++) {
                int at = tile;
                for (int i = 0; i < corners[a]; i++) {
                    at = chosen[b][chosen[a][at]];
                }
                if (at != tile) {
                    return false;
                }
            }
            return true;
        }

        private void weigh() {
            if (!connected()) {
                return;
            }
            found++;
            if (!labelled.contains(Arrays.deepToString(chosen))) {
                unlike++;
                addRelabelled(new int[n], 0, 0);
            }
            if (isSmooth()) {
                smooth++;
                if (first == null) {
                    first = chosen.clone();
                    handles = handlesOfFirst();
                }
            }
        }

        private boolean connected() {
            boolean[] reached = new boolean[n];
            reached[0] = true;
            for (int again = 0; again < n; again++) {
                for (int[] row : chosen) {
                    for (int tile = 0; tile < n; tile++) {
                        reached[row[tile]] |= reached[tile];
                    }
                }
            }
            for (boolean one : reached) {
                if (!one) {
                    return false;
                }
            }
            return true;
        }

        private void addRelabelled(int[] numbers, int place, int used) {
            if (place == n) {
                int[][] other = new int[chosen.length][n];
                for (int side = 0; side < chosen.length; side++) {
                    for (int tile = 0; tile < n; tile++) {
                        other[side][numbers[tile]] = numbers[chosen[side][tile]];
                    }
                }
                labelled.add(Arrays.deepToString(other));
                return;
            }
            for (int number = 0; number < n; number++) {
                if ((used >> number & 1) == 0) {
                    numbers[place] = number;
                    addRelabelled(numbers, place + 1, used | 1 << number);
                }
            }
        }

        private boolean isSmooth() {
            for (int side = 0; side < chosen.length; side++) {
                int next = (side + 1) % chosen.length;
                for (int tile = 0; tile < n; tile++) {
                    if (chosen[side][tile] == tile) {
                        return false;
                    }
                    int at = tile;
                    for (int i = 1; i < corners[side]; i++) {
                        at = chosen[next][chosen[side][at]];
                        if (at == tile) {
                            return false;
                        }
                    }
                }
            }
            return true;
        }

        private int handlesOfFirst() {
            for (int sorts = 0; sorts < 1 << n; sorts++) {
                boolean parted = true;
                for (int[] row : first) {
                    for (int tile = 0; tile < n; tile++) {
                        parted &= (sorts >> tile & 1) != (sorts >> row[tile] & 1);
                    }
                }
                if (parted) {
                    double twice = 2 - n + n * corners.length / 2.0;
                    for (int corner : corners) {
                        if (corner == 0) {
                            return NONE;
                        }
                        twice -= n / (2.0 * corner);
                    }
                    return (int) Math.round(twice / 2);
                }
            }
            return NONE;
        }
    }

    private Closed closedOf(int n) {
        if (n < 1 || n > 6) {
            throw new IllegalArgumentException();
        }
        return closedBoards.computeIfAbsent(n, Closed::new);
    }

    int closed(int n, int what) {
        if (what < 0 || what > 4) {
            throw new NoSuchElementException();
        }
        Closed closed = closedOf(n);
        if (closed.spent) {
            return -2;
        }
        return new int[] {closed.found, closed.smooth, closed.unlike, closed.handles, closed.tries}[what];
    }

    int first(int n, int side, int tile) {
        Closed closed = closedOf(n);
        needSide(side);
        if (closed.spent || closed.first == null || tile < 0 || tile >= n) {
            throw new NoSuchElementException();
        }
        return closed.first[side][tile];
    }

    // The ant: a step is kept as the tile, the side and the colour that were before it.

    int steps(int steps) {
        if (steps < 0 || steps > 400) {
            throw new IllegalArgumentException();
        }
        for (int made = 0; made < steps; made++) {
            int colour = paint[ant];
            int leaving = (cameBy + turns[colour]) % corners.length;
            int to = across.get(ant)[leaving];
            if (to == NONE) {
                status[1]++;
                return made;
            }
            done.add(new int[] {ant, cameBy, colour, to, leaving});
            if (done.size() > 1000) {
                done.remove(0);
            }
            undone.clear();
            paint[ant] = (colour + 1) % turns.length;
            ant = to;
            cameBy = leaving;
        }
        return steps;
    }

    int ant(int what) {
        if (what < 0 || what > 3) {
            throw new NoSuchElementException();
        }
        return new int[] {ant, cameBy, done.size(), undone.size()}[what];
    }

    boolean undo() {
        if (done.isEmpty()) {
            status[2]++;
            return false;
        }
        int[] step = done.remove(done.size() - 1);
        undone.add(step);
        ant = step[0];
        cameBy = step[1];
        paint[ant] = step[2];
        return true;
    }

    boolean redo() {
        if (undone.isEmpty()) {
            status[2]++;
            return false;
        }
        int[] step = undone.remove(undone.size() - 1);
        done.add(step);
        paint[step[0]] = (step[2] + 1) % turns.length;
        ant = step[3];
        cameBy = step[4];
        return true;
    }

    void image() {
        int[] keptPaint = paint.clone();
        int keptAnt = ant;
        int keptCameBy = cameBy;
        List<int[]> keptDone = new ArrayList<>(done);
        List<int[]> keptUndone = new ArrayList<>(undone);
        image = () -> {
            paint = keptPaint.clone();
            ant = keptAnt;
            cameBy = keptCameBy;
            done = new ArrayList<>(keptDone);
            undone = new ArrayList<>(keptUndone);
        };
    }

    boolean restore() {
        if (image == null) {
            return false;
        }
        image.run();
        return true;
    }
}
