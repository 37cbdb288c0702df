import java.util.ArrayDeque;
import java.util.ArrayList;
import java.util.Collections;
import java.util.Deque;
import java.util.List;
import java.util.Random;
import java.util.TreeSet;

// Compares the class with a model of it: words as texts, row insertion for the
// parts and for relatedness, which by Knuth and Greene is the same thing.
public final class ModelTest {
    private static final int BAD_ARG = -1;
    private static final int FULL = -2;
    private static final int NONE = -4;
    private static int wrong = 0;

    public static void main(String[] args) {
        everyShortWord();
        spreadOfLongWords();
        for (int seed = 1; seed <= 300; seed++) {
            runOfCalls(seed);
        }
        System.out.println(wrong == 0 ? "all answers are as due" : wrong + " answers are not as due");
        if (wrong != 0) {
            System.exit(1);
        }
    }

    private static void due(String call, int got, int want) {
        if (got != want) {
            wrong++;
            if (wrong <= 50) {
                System.out.println(call + " answered " + got + ", due is " + want);
            }
        }
    }

    private static void everyShortWord() {
        Deque<String> words = new ArrayDeque<>();
        words.add("");
        while (!words.isEmpty()) {
            String word = words.remove();
            compareWord(word);
            for (char c = '1'; c <= '7' && word.length() < 5; c++) {
                words.add(word + c);
            }
        }
    }

    private static void spreadOfLongWords() {
        Random random = new Random(7);
        for (int j = 0; j < 2000; j++) {
            int size = 6 + j % 2;
            // Few different letters make many equal ones.
            int letters = 2 + j / 2 % 6;
            compareWord(randomWord(random, size, letters));
            List<Character> all = new ArrayList<>(List.of('1', '2', '3', '4', '5', '6', '7'));
            Collections.shuffle(all, random);
            StringBuilder permutation = new StringBuilder();
            all.forEach(permutation::append);
            compareWord(permutation.toString());
        }
    }

    private static String randomWord(Random random, int size, int letters) {
        StringBuilder word = new StringBuilder();
        for (int i = 0; i < size; i++) {
            word.append(1 + random.nextInt(letters));
        }
        return word.toString();
    }

    private static void compareWord(String word) {
        RowInsertion x = new RowInsertion();
        fill(x, 0, word);
        due("code of " + word, x.code(0), codeOf(word));
        due("descents of " + word, x.descents(0), descentsOf(word));
        for (int k = 0; k <= 3; k++) {
            due("rising " + k + " of " + word, x.rising(0, k), mostRising(word, k));
            due("falling " + k + " of " + word, x.falling(0, k), mostFalling(word, k));
        }
        for (int n = 0; n <= word.length(); n++) {
            due("risingOf " + n + " of " + word, x.risingOf(0, n), mostRising(word.substring(0, n), 1));
        }
        List<String> kin = kinOf(word);
        due("kin of " + word, x.kin(0), kin.size());
        for (int n = -1; n <= kin.size(); n++) {
            due("kinAt " + n + " of " + word, x.kinAt(0, n), kinAtOf(kin, n));
        }
        compareRelated(x, word, kin.get(kin.size() / 2));
        compareRelated(x, word, new StringBuilder(word).reverse().toString());
    }

    private static void compareRelated(RowInsertion x, String zero, String one) {
        // A word has at most 7 letters; a drop that never ends must not hang the test.
        for (int i = 0; i < 7; i++) {
            x.drop(1);
        }
        fill(x, 1, one);
        due("related of " + zero + " and " + one, x.related(), relatedOf(zero, one));
    }

    private static void fill(RowInsertion x, int w, String word) {
        for (int i = 0; i < word.length(); i++) {
            due("add in " + word, x.add(w, word.charAt(i) - '0'), i + 1);
        }
    }

    /** 400 calls right and wrong, and 100 that look at the state: 500 of the 512 allowed. */
    private static void runOfCalls(int seed) {
        Random random = new Random(seed);
        RowInsertion x = new RowInsertion();
        String[] words = {"", ""};
        for (int call = 1; call <= 400; call++) {
            int kind = random.nextInt(17);
            int w = random.nextInt(20) == 0 ? random.nextInt(9) - 4 : random.nextInt(2);
            // In some runs few letters are added, so that words become related.
            int a = kind < 4 && seed % 3 == 0 ? 1 + random.nextInt(2) : random.nextInt(11) - 1;
            String at = "run " + seed + ", call " + call + ", kind " + kind + " (" + w + ", " + a + ")";
            int got = answer(x, kind, w, a);
            due(at, got, answerDue(words, kind, w, a));
            if (call % 8 == 0) {
                due(at + ", then code(0)", x.code(0), codeOf(words[0]));
                due(at + ", then code(1)", x.code(1), codeOf(words[1]));
            }
        }
    }

    private static int answer(RowInsertion x, int kind, int w, int a) {
        switch (kind) {
            case 4: return x.drop(w);
            case 5: return x.exchange(w, a);
            case 6: return x.move(w, a);
            case 7: return x.turn(w);
            case 8: return x.letter(w, a);
            case 9: return x.code(w);
            case 10: return x.kin(w);
            case 11: return x.kinAt(w, a);
            case 12: return x.related();
            case 13: return x.rising(w, a);
            case 14: return x.falling(w, a);
            case 15: return x.risingOf(w, a);
            case 16: return x.descents(w);
            default: return x.add(w, a);
        }
    }

    private static int answerDue(String[] words, int kind, int w, int a) {
        if (kind == 12) {
            return relatedOf(words[0], words[1]);
        }
        if (w != 0 && w != 1) {
            return BAD_ARG;
        }
        String word = words[w];
        int size = word.length();
        switch (kind) {
            case 8: return a >= 0 && a < size ? word.charAt(a) - '0' : NONE;
            case 9: return codeOf(word);
            case 10: return kinOf(word).size();
            case 11: return kinAtOf(kinOf(word), a);
            case 13: return a >= 0 && a <= 3 ? mostRising(word, a) : BAD_ARG;
            case 14: return a >= 0 && a <= 3 ? mostFalling(word, a) : BAD_ARG;
            case 15: return a >= 0 && a <= size ? mostRising(word.substring(0, a), 1) : BAD_ARG;
            case 16: return descentsOf(word);
            default: return changeDue(words, kind, w, a);
        }
    }

    private static int changeDue(String[] words, int kind, int w, int a) {
        String word = words[w];
        int size = word.length();
        boolean pair = a >= 0 && a + 1 < size;
        switch (kind) {
            case 4:
                if (size == 0) {
                    return NONE;
                }
                words[w] = word.substring(0, size - 1);
                return word.charAt(size - 1) - '0';
            case 5:
                if (!pair) {
                    return NONE;
                }
                words[w] = swapped(word, a);
                return isMove(word, a) ? 1 : 0;
            case 6:
                if (!pair || !isMove(word, a)) {
                    return NONE;
                }
                words[w] = swapped(word, a);
                return 1;
            case 7:
                words[w] = "";
                for (char c : word.toCharArray()) {
                    words[w] = (8 - (c - '0')) + words[w];
                }
                return size;
            default:
                if (a < 1 || a > 7) {
                    return BAD_ARG;
                }
                if (size == 7) {
                    return FULL;
                }
                words[w] = word + a;
                return size + 1;
        }
    }

    private static int codeOf(String word) {
        return word.isEmpty() ? 0 : Integer.parseInt(word, 8);
    }

    private static int descentsOf(String word) {
        int count = 0;
        for (int i = 1; i < word.length(); i++) {
            count += word.charAt(i - 1) > word.charAt(i) ? 1 : 0;
        }
        return count;
    }

    private static String swapped(String word, int i) {
        return word.substring(0, i) + word.charAt(i + 1) + word.charAt(i) + word.substring(i + 2);
    }

    private static boolean isMove(String word, int i) {
        int x = Math.min(word.charAt(i), word.charAt(i + 1));
        int z = Math.max(word.charAt(i), word.charAt(i + 1));
        if (x == z) {
            return false;
        }
        boolean before = i - 1 >= 0 && x < word.charAt(i - 1) && word.charAt(i - 1) <= z;
        boolean behind = i + 2 < word.length() && x <= word.charAt(i + 2) && word.charAt(i + 2) < z;
        return before || behind;
    }

    private static List<String> kinOf(String word) {
        TreeSet<String> kin = new TreeSet<>();
        Deque<String> open = new ArrayDeque<>();
        kin.add(word);
        open.add(word);
        while (!open.isEmpty()) {
            String next = open.remove();
            for (int i = 0; i + 1 < next.length(); i++) {
                if (isMove(next, i) && kin.add(swapped(next, i))) {
                    open.add(swapped(next, i));
                }
            }
        }
        return new ArrayList<>(kin);
    }

    private static int kinAtOf(List<String> kin, int n) {
        return n >= 0 && n < kin.size() ? codeOf(kin.get(n)) : NONE;
    }

    private static int relatedOf(String zero, String one) {
        return rowsOf(zero).equals(rowsOf(one)) ? 1 : 0;
    }

    private static int mostRising(String word, int k) {
        int most = 0;
        List<StringBuilder> rows = tableau(word);
        for (int r = 0; r < k && r < rows.size(); r++) {
            most += rows.get(r).length();
        }
        return most;
    }

    private static int mostFalling(String word, int k) {
        int most = 0;
        for (StringBuilder row : tableau(word)) {
            most += Math.min(k, row.length());
        }
        return most;
    }

    private static String rowsOf(String word) {
        return String.join("/", tableau(word));
    }

    private static List<StringBuilder> tableau(String word) {
        List<StringBuilder> rows = new ArrayList<>();
        for (char letter : word.toCharArray()) {
            insert(rows, letter);
        }
        return rows;
    }

    /** Each letter pushes the first greater one out of a row, into the next row. */
    private static void insert(List<StringBuilder> rows, char letter) {
        char pushed = letter;
        for (StringBuilder row : rows) {
            int place = 0;
            while (place < row.length() && row.charAt(place) <= pushed) {
                place++;
            }
            if (place == row.length()) {
                row.append(pushed);
                return;
            }
            char out = row.charAt(place);
            row.setCharAt(place, pushed);
            pushed = out;
        }
        rows.add(new StringBuilder().append(pushed));
    }
}
