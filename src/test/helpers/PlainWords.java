import java.util.ArrayDeque;
import java.util.ArrayList;
import java.util.Deque;
import java.util.List;
import java.util.TreeSet;

// The document once more, as a text for each word and each answer from its
// definition alone, for tests to compare with. It is slow and knows no theorem.
final class PlainWords {
    static final int BAD_ARG = -1;
    static final int FULL = -2;
    static final int NONE = -4;

    private final String[] words = {"", ""};

    PlainWords(String zero, String one) {
        words[0] = zero;
        words[1] = one;
    }

    String word(int w) {
        return words[w];
    }

    int add(int w, int letter) {
        if (!isWord(w) || letter < 1 || letter > 7) {
            return BAD_ARG;
        }
        if (words[w].length() == 7) {
            return FULL;
        }
        words[w] = words[w] + letter;
        return words[w].length();
    }

    int drop(int w) {
        if (!isWord(w)) {
            return BAD_ARG;
        }
        if (words[w].isEmpty()) {
            return NONE;
        }
        int last = words[w].length() - 1;
        int letter = letterIn(words[w], last);
        words[w] = words[w].substring(0, last);
        return letter;
    }

    int exchange(int w, int i) {
        if (!isWord(w)) {
            return BAD_ARG;
        }
        if (!hasPlace(words[w], i) || !hasPlace(words[w], i + 1)) {
            return NONE;
        }
        boolean move = isMove(words[w], i);
        words[w] = exchanged(words[w], i);
        return move ? 1 : 0;
    }

    int move(int w, int i) {
        if (!isWord(w)) {
            return BAD_ARG;
        }
        if (!hasPlace(words[w], i) || !hasPlace(words[w], i + 1) || !isMove(words[w], i)) {
            return NONE;
        }
        words[w] = exchanged(words[w], i);
        return 1;
    }

    int turn(int w) {
        if (!isWord(w)) {
            return BAD_ARG;
        }
        words[w] = turned(words[w]);
        return words[w].length();
    }

    int letter(int w, int i) {
        if (!isWord(w)) {
            return BAD_ARG;
        }
        return hasPlace(words[w], i) ? letterIn(words[w], i) : NONE;
    }

    int code(int w) {
        return isWord(w) ? codeOf(words[w]) : BAD_ARG;
    }

    int kin(int w) {
        return isWord(w) ? kinOf(words[w]).size() : BAD_ARG;
    }

    int kinAt(int w, int n) {
        if (!isWord(w)) {
            return BAD_ARG;
        }
        List<String> kin = kinOf(words[w]);
        return n >= 0 && n < kin.size() ? codeOf(kin.get(n)) : NONE;
    }

    int related() {
        return kinOf(words[0]).contains(words[1]) ? 1 : 0;
    }

    int rising(int w, int k) {
        return isWord(w) && k >= 0 && k <= 3 ? mostPlaces(words[w], k, true) : BAD_ARG;
    }

    int falling(int w, int k) {
        return isWord(w) && k >= 0 && k <= 3 ? mostPlaces(words[w], k, false) : BAD_ARG;
    }

    int risingOf(int w, int n) {
        if (!isWord(w) || n < 0 || n > words[w].length()) {
            return BAD_ARG;
        }
        return mostPlaces(words[w].substring(0, n), 1, true);
    }

    int descents(int w) {
        return isWord(w) ? descentsOf(words[w]) : BAD_ARG;
    }

    static boolean isWord(int w) {
        return w == 0 || w == 1;
    }

    static boolean hasPlace(String word, int i) {
        return i >= 0 && i < word.length();
    }

    static int letterIn(String word, int i) {
        return word.charAt(i) - '0';
    }

    static String exchanged(String word, int i) {
        return word.substring(0, i) + word.charAt(i + 1) + word.charAt(i) + word.substring(i + 2);
    }

    static boolean isMove(String word, int i) {
        int x = Math.min(letterIn(word, i), letterIn(word, i + 1));
        int z = Math.max(letterIn(word, i), letterIn(word, i + 1));
        if (x == z) {
            return false;
        }
        boolean before = false;
        if (hasPlace(word, i - 1)) {
            int y = letterIn(word, i - 1);
            before = x < y && y <= z;
        }
        boolean behind = false;
        if (hasPlace(word, i + 2)) {
            int y = letterIn(word, i + 2);
            behind = x <= y && y < z;
        }
        return before || behind;
    }

    static String turned(String word) {
        StringBuilder turned = new StringBuilder();
        for (int i = word.length() - 1; i >= 0; i--) {
            turned.append(8 - letterIn(word, i));
        }
        return turned.toString();
    }

    static int codeOf(String word) {
        if (word.isEmpty()) {
            return 0;
        }
        int last = word.length() - 1;
        return 8 * codeOf(word.substring(0, last)) + letterIn(word, last);
    }

    /** In the order of the dictionary, which is that of texts of one length. */
    static List<String> kinOf(String word) {
        TreeSet<String> kin = new TreeSet<>();
        Deque<String> open = new ArrayDeque<>();
        kin.add(word);
        open.add(word);
        while (!open.isEmpty()) {
            String next = open.remove();
            for (int i = 0; i < next.length() - 1; i++) {
                if (isMove(next, i) && kin.add(exchanged(next, i))) {
                    open.add(exchanged(next, i));
                }
            }
        }
        return new ArrayList<>(kin);
    }

    /** Whether the places whose bits are set are a part: rising, or else falling. */
    static boolean isPart(String word, int places, boolean rising) {
        int before = rising ? 0 : 8;
        for (int i = 0; i < word.length(); i++) {
            if ((places >> i & 1) == 1) {
                int letter = letterIn(word, i);
                if (rising ? letter < before : letter >= before) {
                    return false;
                }
                before = letter;
            }
        }
        return true;
    }

    /** Parts may share places here, as the document doesn't forbid it. */
    static int mostPlaces(String word, int k, boolean rising) {
        int sets = 1 << word.length();
        boolean[] together = new boolean[sets];
        together[0] = true;
        for (int part = 1; part <= k; part++) {
            together = withOneMore(together, word, rising);
        }
        int most = 0;
        for (int places = 0; places < sets; places++) {
            if (together[places]) {
                most = Math.max(most, Integer.bitCount(places));
            }
        }
        return most;
    }

    private static boolean[] withOneMore(boolean[] together, String word, boolean rising) {
        boolean[] more = together.clone();
        for (int places = 0; places < together.length; places++) {
            if (isPart(word, places, rising)) {
                for (int others = 0; others < together.length; others++) {
                    more[others | places] |= together[others];
                }
            }
        }
        return more;
    }

    static int descentsOf(String word) {
        int count = 0;
        for (int i = 0; i < word.length() - 1; i++) {
            if (letterIn(word, i) > letterIn(word, i + 1)) {
                count++;
            }
        }
        return count;
    }
}
