import java.util.ArrayDeque;
import java.util.ArrayList;
import java.util.Collections;
import java.util.Deque;
import java.util.List;
import java.util.Random;

// Compares the class with row insertion, which by Greene tells what parts can
// cover and by Knuth which words are related, and in the rest with plain words.
public final class RowsTest {
    private static final int NONE = -4;
    private static int wrong = 0;

    public static void main(String[] args) {
        everyShortWord();
        spreadOfLongWords();
        System.out.println(wrong == 0 ? "all answers are as due" : wrong + " answers are not as due");
        if (wrong != 0) {
            System.exit(1);
        }
    }

    private static void due(String call, int got, int want) {
        if (got != want) {
            wrong++;
            if (wrong <= 50) {
                System.out.println(call + " answered " + got + ", due is " + want);
            }
        }
    }

    private static void everyShortWord() {
        Deque<String> words = new ArrayDeque<>();
        words.add("");
        while (!words.isEmpty()) {
            String word = words.remove();
            compareWord(word);
            for (char c = '1'; c <= '7' && word.length() < 5; c++) {
                words.add(word + c);
            }
        }
    }

    private static void spreadOfLongWords() {
        Random random = new Random(7);
        for (int j = 0; j < 2000; j++) {
            int size = 6 + j % 2;
            // Few different letters make many equal ones.
            int letters = 2 + j / 2 % 6;
            compareWord(randomWord(random, size, letters));
            List<Character> all = new ArrayList<>(List.of('1', '2', '3', '4', '5', '6', '7'));
            Collections.shuffle(all, random);
            StringBuilder permutation = new StringBuilder();
            all.forEach(permutation::append);
            compareWord(permutation.toString());
        }
    }

    private static String randomWord(Random random, int size, int letters) {
        StringBuilder word = new StringBuilder();
        for (int i = 0; i < size; i++) {
            word.append(1 + random.nextInt(letters));
        }
        return word.toString();
    }

    private static void compareWord(String word) {
        RowInsertion x = new RowInsertion();
        fill(x, 0, word);
        due("code of " + word, x.code(0), PlainWords.codeOf(word));
        due("descents of " + word, x.descents(0), PlainWords.descentsOf(word));
        for (int k = 0; k <= 3; k++) {
            due("rising " + k + " of " + word, x.rising(0, k), mostRising(word, k));
            due("falling " + k + " of " + word, x.falling(0, k), mostFalling(word, k));
        }
        for (int n = 0; n <= word.length(); n++) {
            due("risingOf " + n + " of " + word, x.risingOf(0, n), mostRising(word.substring(0, n), 1));
        }
        List<String> kin = PlainWords.kinOf(word);
        due("kin of " + word, x.kin(0), kin.size());
        for (int n = -1; n <= kin.size(); n++) {
            due("kinAt " + n + " of " + word, x.kinAt(0, n), kinAtOf(kin, n));
        }
        compareRelated(x, word, kin.get(kin.size() / 2));
        compareRelated(x, word, new StringBuilder(word).reverse().toString());
    }

    private static void compareRelated(RowInsertion x, String zero, String one) {
        // A word has at most 7 letters; a drop that never ends must not hang the test.
        for (int i = 0; i < 7; i++) {
            x.drop(1);
        }
        fill(x, 1, one);
        due("related of " + zero + " and " + one, x.related(), relatedOf(zero, one));
    }

    private static void fill(RowInsertion x, int w, String word) {
        for (int i = 0; i < word.length(); i++) {
            due("add in " + word, x.add(w, word.charAt(i) - '0'), i + 1);
        }
    }

    private static int kinAtOf(List<String> kin, int n) {
        return n >= 0 && n < kin.size() ? PlainWords.codeOf(kin.get(n)) : NONE;
    }

    private static int relatedOf(String zero, String one) {
        return rowsOf(zero).equals(rowsOf(one)) ? 1 : 0;
    }

    private static int mostRising(String word, int k) {
        int most = 0;
        List<StringBuilder> rows = tableau(word);
        for (int r = 0; r < k && r < rows.size(); r++) {
            most += rows.get(r).length();
        }
        return most;
    }

    private static int mostFalling(String word, int k) {
        int most = 0;
        for (StringBuilder row : tableau(word)) {
            most += Math.min(k, row.length());
        }
        return most;
    }

    private static String rowsOf(String word) {
        return String.join("/", tableau(word));
    }

    private static List<StringBuilder> tableau(String word) {
        List<StringBuilder> rows = new ArrayList<>();
        for (char letter : word.toCharArray()) {
            insert(rows, letter);
        }
        return rows;
    }

    /** Each letter pushes the first greater one out of a row, into the next row. */
    private static void insert(List<StringBuilder> rows, char letter) {
        char pushed = letter;
        for (StringBuilder row : rows) {
            int place = 0;
            while (place < row.length() && row.charAt(place) <= pushed) {
                place++;
            }
            if (place == row.length()) {
                row.append(pushed);
                return;
            }
            char out = row.charAt(place);
            row.setCharAt(place, pushed);
            pushed = out;
        }
        rows.add(new StringBuilder().append(pushed));
    }
}
