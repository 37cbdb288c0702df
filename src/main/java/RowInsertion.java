/**
 * Two words of at most seven letters, their kin, and what rising and falling
 * parts can cover of them.
 *
 * A word is held as its code, three bits to a letter, beside its number of
 * letters. Among words of one length the order of the codes is then the order
 * of the dictionary.
 */
public final class RowInsertion {
    public static final int BAD_ARG = -1;
    public static final int FULL = -2;
    public static final int NONE = -4;

    private static final int WORDS = 2;
    private static final int MAX_SIZE = 7;
    private static final int MAX_LETTER = 7;
    private static final int LETTER_BITS = 3;
    private static final int MAX_PARTS = 3;
    // One more than the parts: choice 0 is to leave a letter out.
    private static final int CHOICES = 4;
    // Kin are rearrangements of one word, so there can't be more than 7!.
    private static final int MAX_KIN = 5040;

    private final int[] codes = new int[WORDS];
    private final int[] sizes = new int[WORDS];
    private final int[] found = new int[MAX_KIN];
    private int foundCount = 0;
    private final int[] ends = new int[CHOICES];

    public RowInsertion() {
    }

    public int add(int w, int letter) {
        if (!isWord(w) || letter < 1 || letter > MAX_LETTER) {
            return BAD_ARG;
        }
        if (sizes[w] >= MAX_SIZE) {
            return FULL;
        }
        codes[w] = (codes[w] << LETTER_BITS) | letter;
        sizes[w]++;
        return sizes[w];
    }

    public int drop(int w) {
        if (!isWord(w)) {
            return BAD_ARG;
        }
        if (sizes[w] == 0) {
            return NONE;
        }
        int last = codes[w] & MAX_LETTER;
        codes[w] >>= LETTER_BITS;
        sizes[w]--;
        return last;
    }

    public int exchange(int w, int i) {
        if (!isWord(w)) {
            return BAD_ARG;
        }
        if (!hasNeighbours(sizes[w], i)) {
            return NONE;
        }
        boolean isMove = mayMove(codes[w], sizes[w], i);
        codes[w] = exchanged(codes[w], sizes[w], i);
        return isMove ? 1 : 0;
    }

    public int move(int w, int i) {
        if (!isWord(w)) {
            return BAD_ARG;
        }
        if (!hasNeighbours(sizes[w], i) || !mayMove(codes[w], sizes[w], i)) {
            return NONE;
        }
        codes[w] = exchanged(codes[w], sizes[w], i);
        return 1;
    }

    public int turn(int w) {
        if (!isWord(w)) {
            return BAD_ARG;
        }
        int turned = 0;
        for (int i = sizes[w] - 1; i >= 0; i--) {
            int x = letterIn(codes[w], sizes[w], i);
            turned = (turned << LETTER_BITS) | (MAX_LETTER + 1 - x);
        }
        codes[w] = turned;
        return sizes[w];
    }

    public int letter(int w, int i) {
        if (!isWord(w)) {
            return BAD_ARG;
        }
        if (i < 0 || i >= sizes[w]) {
            return NONE;
        }
        return letterIn(codes[w], sizes[w], i);
    }

    public int code(int w) {
        if (!isWord(w)) {
            return BAD_ARG;
        }
        return codes[w];
    }

    public int kin(int w) {
        if (!isWord(w)) {
            return BAD_ARG;
        }
        findKin(codes[w], sizes[w]);
        return foundCount;
    }

    public int kinAt(int w, int n) {
        if (!isWord(w)) {
            return BAD_ARG;
        }
        findKin(codes[w], sizes[w]);
        for (int j = 0; j < foundCount; j++) {
            if (foundBefore(found[j]) == n) {
                return found[j];
            }
        }
        return NONE;
    }

    public int related() {
        // Codes of words of different lengths differ too, as no letter is 0.
        findKin(codes[0], sizes[0]);
        return isFound(codes[1]) ? 1 : 0;
    }

    public int rising(int w, int k) {
        if (!isWord(w) || k < 0 || k > MAX_PARTS) {
            return BAD_ARG;
        }
        return mostCovered(codes[w], sizes[w], k, true);
    }

    public int falling(int w, int k) {
        if (!isWord(w) || k < 0 || k > MAX_PARTS) {
            return BAD_ARG;
        }
        return mostCovered(codes[w], sizes[w], k, false);
    }

    public int risingOf(int w, int n) {
        if (!isWord(w) || n < 0 || n > sizes[w]) {
            return BAD_ARG;
        }
        int beginning = codes[w] >> (LETTER_BITS * (sizes[w] - n));
        return mostCovered(beginning, n, 1, true);
    }

    public int descents(int w) {
        if (!isWord(w)) {
            return BAD_ARG;
        }
        int count = 0;
        for (int i = 0; i < sizes[w] - 1; i++) {
            int here = letterIn(codes[w], sizes[w], i);
            int next = letterIn(codes[w], sizes[w], i + 1);
            if (here > next) {
                count++;
            }
        }
        return count;
    }

    private static boolean isWord(int w) {
        return w == 0 || w == 1;
    }

    private static boolean hasNeighbours(int size, int i) {
        // Not i + 1 < size: the greatest int would wrap round.
        return i >= 0 && i < size - 1;
    }

    private static int letterIn(int code, int size, int i) {
        return (code >> (LETTER_BITS * (size - 1 - i))) & MAX_LETTER;
    }

    private static int exchanged(int code, int size, int i) {
        // Xor with their difference turns each of the two letters into the other.
        int difference = letterIn(code, size, i) ^ letterIn(code, size, i + 1);
        int shift = LETTER_BITS * (size - 2 - i);
        return code ^ (difference << shift) ^ (difference << (shift + LETTER_BITS));
    }

    private static boolean mayMove(int code, int size, int i) {
        int left = letterIn(code, size, i);
        int right = letterIn(code, size, i + 1);
        // Equal letters need no test of their own: no y lies between them.
        int x = left < right ? left : right;
        int z = left < right ? right : left;
        if (i > 0) {
            int y = letterIn(code, size, i - 1);
            if (x < y && y <= z) {
                return true;
            }
        }
        if (i < size - 2) {
            int y = letterIn(code, size, i + 2);
            return x <= y && y < z;
        }
        return false;
    }

    private void findKin(int code, int size) {
        found[0] = code;
        foundCount = 1;
        for (int next = 0; next < MAX_KIN && next < foundCount; next++) {
            findNeighbours(found[next], size);
        }
    }

    private void findNeighbours(int code, int size) {
        for (int i = 0; i < size - 1; i++) {
            if (mayMove(code, size, i)) {
                int other = exchanged(code, size, i);
                if (!isFound(other) && foundCount < MAX_KIN) {
                    found[foundCount] = other;
                    foundCount++;
                }
            }
        }
    }

    private boolean isFound(int code) {
        for (int j = 0; j < foundCount; j++) {
            if (found[j] == code) {
                return true;
            }
        }
        return false;
    }

    private int foundBefore(int code) {
        int before = 0;
        for (int j = 0; j < foundCount; j++) {
            if (found[j] < code) {
                before++;
            }
        }
        return before;
    }

    /**
     * Tries every way to give each place to one of k parts or to none, at most
     * 4 to the 7th. Parts that share a place cover no more than parts that
     * don't, since a rising or falling part stays one when it loses a place.
     */
    private int mostCovered(int code, int size, int k, boolean upward) {
        int ways = 1;
        for (int i = 0; i < size; i++) {
            ways *= k + 1;
        }
        int most = 0;
        for (int way = 0; way < ways; way++) {
            int covered = coveredIn(way, code, size, k, upward);
            if (covered > most) {
                most = covered;
            }
        }
        return most;
    }

    /** The digits of way in base k + 1 name each place's part; 0 is none. */
    private int coveredIn(int way, int code, int size, int k, boolean upward) {
        clearEnds(upward);
        int covered = 0;
        int rest = way;
        for (int i = 0; i < size; i++) {
            int part = rest % (k + 1);
            rest /= k + 1;
            if (part > 0) {
                int x = letterIn(code, size, i);
                boolean fits = upward ? x >= ends[part] : x < ends[part];
                if (!fits) {
                    // Not a way at all; 0 never beats the way that takes no place.
                    return 0;
                }
                ends[part] = x;
                covered++;
            }
        }
        return covered;
    }

    private void clearEnds(boolean upward) {
        for (int part = 0; part < CHOICES; part++) {
            ends[part] = upward ? 0 : MAX_LETTER + 1;
        }
    }
}
