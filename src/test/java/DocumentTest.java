import java.nio.file.Files;
import java.nio.file.Path;
import java.util.ArrayList;
import java.util.Arrays;
import java.util.List;
import java.util.Random;
import java.util.TreeSet;

// The document from its first line to its last. Each sentence stands here as it
// stands there, with a test that fails if the sentence is broken, or as one that
// says nothing of what a call answers or changes. At the end the sentences are
// held against the document, so that none is left out.
public final class DocumentTest {
    private static final int BAD_ARG = -1;
    private static final int FULL = -2;
    private static final int NONE = -4;
    private static final Path DOCUMENT = Path.of("../shared/DOC.md");
    private static final int TOLD_OF_EACH = 5;

    private static final int[] NOT_WORDS = {-1, 2, 3, 8, 256, 65537, Integer.MIN_VALUE, Integer.MAX_VALUE};
    private static final int[] SECONDS = {Integer.MIN_VALUE, Integer.MIN_VALUE + 1, -8, -1, 0, 1, 2, 3, 4, 5, 6, 7,
        8, 9, 35, 256, 65537, 5040, Integer.MAX_VALUE - 1, Integer.MAX_VALUE};
    // What stands in the word that a call is not on.
    private static final String OTHER = "5234";
    // Every word of up to three letters, every one of four letters from 1 to 4, and some longer ones.
    private static final List<String> WORDS = new ArrayList<>();
    private static final List<String> LONG_WORDS = new ArrayList<>();

    private static final List<String> quoted = new ArrayList<>();
    private static String sentence = "";
    private static int wrongInSentence = 0;
    private static int wrong = 0;

    /** A sentence that is broken in several ways is left for the next one. */
    private static final class Enough extends RuntimeException {
        private static final long serialVersionUID = 1;
    }

    private interface OnWord {
        void test(int w, String word);
    }

    private interface OnPlace {
        void test(int w, String word, int i);
    }

    public static void main(String[] args) throws Exception {
        makeWords();
        whatItIs();
        terms();
        everyCall();
        constants();
        changes();
        questions();
        kinOfWords();
        partsOfWords();
        notPromised();
        compareWithDocument();
        System.out.println(wrong == 0 ? "every sentence holds" : wrong + " faults");
        if (wrong != 0) {
            System.exit(1);
        }
    }

    private static void makeWords() {
        WORDS.add("");
        for (int j = 0; j < WORDS.size(); j++) {
            String word = WORDS.get(j);
            int greatest = word.length() < 3 ? 7 : word.matches("[1-4]{3}") ? 4 : 0;
            for (int letter = 1; letter <= greatest; letter++) {
                WORDS.add(word + letter);
            }
        }
        LONG_WORDS.addAll(List.of("1111111", "7777777", "1234567", "7654321", "4261357", "1324567", "1234657",
                "541632", "236145", "2345671"));
        Random random = new Random(3);
        for (int j = 0; j < 300; j++) {
            StringBuilder word = new StringBuilder();
            for (int i = 0; i < 5 + j % 3; i++) {
                // Few different letters make many equal ones.
                word.append(1 + random.nextInt(2 + j % 6));
            }
            LONG_WORDS.add(word.toString());
        }
        WORDS.addAll(LONG_WORDS);
    }

    // ---- The frame: sentences, and calls on either word ----

    private static void says(String text, Runnable test) {
        quoted.add(text);
        sentence = text;
        wrongInSentence = 0;
        try {
            test.run();
        } catch (Enough e) {
            System.out.println("[" + sentence + "] and no more of this sentence is tested");
        } catch (RuntimeException | Error e) {
            told("a call threw " + e);
        }
    }

    private static void tellsOfNoCall(String text) {
        quoted.add(text);
    }

    private static void fault(String what) {
        told(what);
        wrongInSentence++;
        if (wrongInSentence >= TOLD_OF_EACH) {
            throw new Enough();
        }
    }

    private static void told(String what) {
        wrong++;
        System.out.println("[" + sentence + "] " + what);
    }

    private static void due(String call, int got, int want) {
        if (got != want) {
            fault(call + " answered " + got + ", due is " + want);
        }
    }

    private static RowInsertion with(int w, String word) {
        RowInsertion x = new RowInsertion();
        fill(x, w, word);
        fill(x, 1 - w, OTHER);
        return x;
    }

    private static void fill(RowInsertion x, int w, String word) {
        for (int i = 0; i < word.length(); i++) {
            x.add(w, PlainWords.letterIn(word, i));
        }
    }

    private static String onWord(String call, int w, String word) {
        return call + " on word " + w + " = '" + word + "'";
    }

    private static void eachWord(OnWord body) {
        for (String word : WORDS) {
            body.test(0, word);
            body.test(1, word);
        }
    }

    /** Each place i of a word that has a place i + 1. */
    private static void eachPair(OnPlace body) {
        eachWord((w, word) -> {
            for (int i = 0; i < word.length() - 1; i++) {
                body.test(w, word, i);
            }
        });
    }

    /** Numbers i without a place i or without a place i + 1. */
    private static void eachNoPair(OnPlace body) {
        eachWord((w, word) -> {
            for (int i : SECONDS) {
                if (i < 0 || i >= word.length() - 1) {
                    body.test(w, word, i);
                }
            }
        });
    }

    private static void leaves(String call, RowInsertion x, int w, String word) {
        holdsLetters(call, x, w, word);
        holdsLetters(call, x, 1 - w, OTHER);
    }

    private static void holdsLetters(String call, RowInsertion x, int w, String word) {
        for (int i = 0; i < 7; i++) {
            int want = i < word.length() ? PlainWords.letterIn(word, i) : NONE;
            due("after " + call + " letter(" + w + ", " + i + ")", x.letter(w, i), want);
        }
    }

    /** The answer is as due, and the word is as told afterwards, with the other one beside it. */
    private static void answers(Member member, int w, String word, int a, int want, String after) {
        RowInsertion x = with(w, word);
        String call = onWord(member.told(w, a), w, word);
        due(call, member.on(x, w, a), want);
        leaves(call, x, w, after);
    }

    /** A call that changes nothing, as it is refused or only asks. */
    private static void answers(Member member, int w, String word, int a, int want) {
        answers(member, w, word, a, want, word);
    }

    // ---- What it is ----

    private static void whatItIs() {
        tellsOfNoCall("Words, the words that come of them by exchanges of neighbours under a condition, "
                + "and how much of them rising and falling parts can cover.");
        says("An object is used for at most 512 calls after it has been made; what later calls answer is free.",
                DocumentTest::wholeUse);
    }

    /** The methods by turns, each of them the last one somewhere; WholeUseTest has runs of other kinds. */
    private static void wholeUse() {
        for (int run = 0; run < LONG_WORDS.size(); run++) {
            String word = LONG_WORDS.get(run);
            RowInsertion x = new RowInsertion();
            PlainWords plain = new PlainWords("", "");
            int call = 1;
            for (; call <= word.length(); call++) {
                int letter = PlainWords.letterIn(word, call - 1);
                due("call " + call, x.add(0, letter), plain.add(0, letter));
            }
            Member[] all = Member.values();
            for (; call <= 512; call++) {
                Member member = all[(call + run) % all.length];
                int w = call / all.length % 2;
                int a = call / 5 % 8;
                due("call " + call + " from '" + word + "', " + member.told(w, a),
                        member.on(x, w, a), member.due(plain, w, a));
            }
        }
    }

    // ---- Terms ----

    private static void terms() {
        says("There are two WORDS, 0 and 1, each a row of at most 7 LETTERS, numbers from 1 to 7; "
                + "its PLACES are counted from 0.", DocumentTest::twoWords);
        says("A MOVE at place i exchanges the letters in places i and i + 1, which must not be equal; "
                + "let x be the smaller one of the two and z the greater one.", DocumentTest::moveExchanges);
        says("It may be made if there is a place i - 1 with a letter y such that x < y <= z, "
                + "or a place i + 2 with a letter y such that x <= y < z.", DocumentTest::moveMayBeMade);
        says("The KIN of a word are all words that come of it by any number of moves, itself among them.",
                DocumentTest::kinAreAll);
        says("They are ordered as in a dictionary: by the first place in which they differ, "
                + "the smaller letter first.", DocumentTest::kinAreOrdered);
        says("The CODE of a word is 0 for the empty word; "
                + "otherwise 8 times the code of the word without its last letter, plus its last letter.",
                DocumentTest::codeByLetters);
        says("A RISING PART of a word is a set of places in which the letters, from left to right, "
                + "never become smaller; a FALLING PART is one in which each is smaller than the one before.",
                DocumentTest::onePart);
        says("(The empty set and single places are both.)", DocumentTest::smallestParts);
    }

    private static void twoWords() {
        eachWord((w, word) -> leaves(onWord("add", w, word), with(w, word), w, word));
        for (int w = 0; w < 2; w++) {
            RowInsertion x = new RowInsertion();
            for (int letter = 1; letter <= 7; letter++) {
                due("add(" + w + ", " + letter + ")", x.add(w, letter), letter);
                due("the letter in place " + (letter - 1), x.letter(w, letter - 1), letter);
            }
            due("an eighth letter for word " + w, x.add(w, 1), FULL);
            due("the letter in place 7", x.letter(w, 7), NONE);
            due("add(" + w + ", 0)", new RowInsertion().add(w, 0), BAD_ARG);
            due("add(" + w + ", 8)", new RowInsertion().add(w, 8), BAD_ARG);
        }
        due("add(-1, 1)", new RowInsertion().add(-1, 1), BAD_ARG);
        due("add(2, 1)", new RowInsertion().add(2, 1), BAD_ARG);
    }

    private static void moveExchanges() {
        eachPair((w, word, i) -> {
            RowInsertion x = with(w, word);
            String call = onWord("move at " + i, w, word);
            boolean made = x.move(w, i) == 1;
            if (made && word.charAt(i) == word.charAt(i + 1)) {
                fault(call + " was made with equal letters");
            }
            leaves(call, x, w, made ? PlainWords.exchanged(word, i) : word);
        });
    }

    private static void moveMayBeMade() {
        eachPair((w, word, i) -> {
            boolean may = PlainWords.isMove(word, i);
            due(onWord("move at " + i, w, word), with(w, word).move(w, i), may ? 1 : NONE);
            due(onWord("exchange at " + i, w, word), with(w, word).exchange(w, i), may ? 1 : 0);
        });
    }

    private static List<Integer> codesOfKin(RowInsertion x, int w) {
        List<Integer> codes = new ArrayList<>();
        int count = x.kin(w);
        for (int n = 0; n < count && n < 400; n++) {
            codes.add(x.kinAt(w, n));
        }
        return codes;
    }

    private static void kinAreAll() {
        eachWord((w, word) -> {
            TreeSet<Integer> want = new TreeSet<>();
            for (String one : PlainWords.kinOf(word)) {
                want.add(PlainWords.codeOf(one));
            }
            List<Integer> got = codesOfKin(with(w, word), w);
            if (got.size() != want.size() || !want.equals(new TreeSet<>(got))) {
                fault(onWord("the kin", w, word) + " are " + got + ", due are " + want);
            }
            if (!got.contains(PlainWords.codeOf(word))) {
                fault(onWord("the kin", w, word) + " leave out the word itself");
            }
        });
    }

    private static void kinAreOrdered() {
        eachWord((w, word) -> {
            List<Integer> codes = codesOfKin(with(w, word), w);
            for (int n = 1; n < codes.size(); n++) {
                if (!comesBefore(codes.get(n - 1), codes.get(n), word.length())) {
                    fault(onWord("kin " + n, w, word) + " does not come after the one before it");
                }
            }
        });
    }

    private static boolean comesBefore(int one, int other, int size) {
        for (int i = 0; i < size; i++) {
            int behind = 3 * (size - 1 - i);
            int letterOfOne = one >> behind & 7;
            int letterOfOther = other >> behind & 7;
            if (letterOfOne != letterOfOther) {
                return letterOfOne < letterOfOther;
            }
        }
        return false;
    }

    private static void codeByLetters() {
        for (int w = 0; w < 2; w++) {
            due("code(" + w + ") of the empty word", new RowInsertion().code(w), 0);
        }
        eachWord((w, word) -> {
            RowInsertion x = with(w, "");
            int before = x.code(w);
            for (int i = 0; i < word.length(); i++) {
                int last = PlainWords.letterIn(word, i);
                x.add(w, last);
                due(onWord("code after letter " + i, w, word), x.code(w), 8 * before + last);
                before = x.code(w);
            }
        });
    }

    private static void onePart() {
        eachWord((w, word) -> {
            int rising = 0;
            int falling = 0;
            for (int places = 0; places < 1 << word.length(); places++) {
                int count = Integer.bitCount(places);
                rising = PlainWords.isPart(word, places, true) ? Math.max(rising, count) : rising;
                falling = PlainWords.isPart(word, places, false) ? Math.max(falling, count) : falling;
            }
            RowInsertion x = with(w, word);
            due(onWord("rising with one part", w, word), x.rising(w, 1), rising);
            due(onWord("falling with one part", w, word), x.falling(w, 1), falling);
            due(onWord("risingOf all letters", w, word), x.risingOf(w, word.length()), rising);
        });
    }

    private static void smallestParts() {
        eachWord((w, word) -> {
            RowInsertion x = with(w, word);
            for (int k = 0; k <= 3; k++) {
                // As many single places as there are parts, if the word has them.
                int atLeast = Math.min(k, word.length());
                String with = onWord(k + " parts", w, word) + " cover at least " + atLeast + ", ";
                due(with + "rising", Math.min(x.rising(w, k), atLeast), atLeast);
                due(with + "falling", Math.min(x.falling(w, k), atLeast), atLeast);
            }
        });
        for (int w = 0; w < 2; w++) {
            due("rising of the empty word", with(w, "").rising(w, 3), 0);
            due("falling of the empty word", with(w, "").falling(w, 3), 0);
            due("rising of one letter", with(w, "4").rising(w, 3), 1);
            due("falling of one letter", with(w, "4").falling(w, 3), 1);
        }
    }

    // ---- Terms: of every call ----

    private static void everyCall() {
        says("No call ever throws.", DocumentTest::noCallThrows);
        says("A refused call answers the code named and changes nothing.", DocumentTest::refusedCalls);
        says("In every call a word w that is not 0 or 1 answers BAD_ARG, tested first.", DocumentTest::notAWord);
    }

    private static void noCallThrows() {
        for (int j = 0; j < WORDS.size(); j += 13) {
            for (Member member : Member.values()) {
                for (int a : SECONDS) {
                    for (int w : new int[] {0, 1, -1, 2, Integer.MIN_VALUE, Integer.MAX_VALUE}) {
                        member.on(with(0, WORDS.get(j)), w, a);
                        member.on(with(1, WORDS.get(j)), w, a);
                    }
                }
            }
        }
    }

    private static void refusedCalls() {
        eachWord((w, word) -> {
            for (Member member : Member.values()) {
                for (int a : member.takesSecond() ? SECONDS : new int[] {0}) {
                    PlainWords plain = w == 0 ? new PlainWords(word, OTHER) : new PlainWords(OTHER, word);
                    int want = member.due(plain, w, a);
                    if (want < 0) {
                        answers(member, w, word, a, want);
                    }
                }
            }
        });
    }

    private static void notAWord() {
        for (Member member : Member.values()) {
            if (member.takesWord()) {
                for (int w : NOT_WORDS) {
                    for (int a : SECONDS) {
                        // Nothing there, something there, and both words full, where add answers FULL.
                        onNoWord(member, w, a, "", "");
                        onNoWord(member, w, a, "2132", "");
                        onNoWord(member, w, a, "4261357", "1324567");
                    }
                }
            }
        }
    }

    private static void onNoWord(Member member, int w, int a, String zero, String one) {
        RowInsertion x = new RowInsertion();
        fill(x, 0, zero);
        fill(x, 1, one);
        due(member.told(w, a) + " beside '" + zero + "' and '" + one + "'", member.on(x, w, a), BAD_ARG);
        holdsLetters(member.told(w, a), x, 0, zero);
        holdsLetters(member.told(w, a), x, 1, one);
    }

    // ---- The constants ----

    private static void constants() {
        says("The constants: `BAD_ARG = -1`: An argument is out of its range.", DocumentTest::badArg);
        says("`FULL = -2`: The word has 7 letters.", DocumentTest::full);
        says("`NONE = -4`: There is no such thing.", DocumentTest::none);
    }

    private static void badArg() {
        due("BAD_ARG", RowInsertion.BAD_ARG, -1);
        eachWord((w, word) -> {
            due(onWord("add of 0", w, word), with(w, word).add(w, 0), RowInsertion.BAD_ARG);
            due(onWord("add of 8", w, word), with(w, word).add(w, 8), RowInsertion.BAD_ARG);
            RowInsertion x = with(w, word);
            due(onWord("rising, -1", w, word), x.rising(w, -1), RowInsertion.BAD_ARG);
            due(onWord("rising, 4", w, word), x.rising(w, 4), RowInsertion.BAD_ARG);
            due(onWord("falling, -1", w, word), x.falling(w, -1), RowInsertion.BAD_ARG);
            due(onWord("falling, 4", w, word), x.falling(w, 4), RowInsertion.BAD_ARG);
            due(onWord("risingOf, -1", w, word), x.risingOf(w, -1), RowInsertion.BAD_ARG);
            int past = word.length() + 1;
            due(onWord("risingOf, " + past, w, word), x.risingOf(w, past), RowInsertion.BAD_ARG);
            due("code(2)", x.code(2), RowInsertion.BAD_ARG);
        });
    }

    private static void full() {
        due("FULL", RowInsertion.FULL, -2);
        eachWord((w, word) -> {
            int want = word.length() == 7 ? RowInsertion.FULL : word.length() + 1;
            due(onWord("add of 4", w, word), with(w, word).add(w, 4), want);
        });
    }

    private static void none() {
        due("NONE", RowInsertion.NONE, -4);
        for (int w = 0; w < 2; w++) {
            due("drop of the empty word", with(w, "").drop(w), RowInsertion.NONE);
        }
        eachWord((w, word) -> {
            RowInsertion x = with(w, word);
            int size = word.length();
            due(onWord("exchange of the last letter", w, word), x.exchange(w, size - 1), RowInsertion.NONE);
            due(onWord("move of the last letter", w, word), x.move(w, size - 1), RowInsertion.NONE);
            due(onWord("letter past the end", w, word), x.letter(w, size), RowInsertion.NONE);
            due(onWord("kinAt past the last", w, word), x.kinAt(w, x.kin(w)), RowInsertion.NONE);
        });
    }

    // ---- Promises 1 to 6 ----

    private static void changes() {
        says("`RowInsertion()`: Both words are empty.", DocumentTest::newObject);
        says("`int add(int w, int letter)`: Puts a letter at the end of word w.", DocumentTest::addPuts);
        says("Tested in this order: letter not 1 to 7 answers BAD_ARG; FULL.", DocumentTest::addTests);
        says("Otherwise the number of letters.", DocumentTest::addCounts);
        says("`int drop(int w)`: Takes the last letter off word w; NONE if it is empty.", DocumentTest::dropTakes);
        says("Otherwise the letter.", DocumentTest::dropAnswers);
        says("`int exchange(int w, int i)`: Exchanges the letters in places i and i + 1 of word w, "
                + "whether that is a move or not.", DocumentTest::exchangeExchanges);
        says("NONE if there are no such places.", DocumentTest::exchangeNone);
        says("Otherwise 1 if it is a move, else 0.", DocumentTest::exchangeAnswers);
        says("`int move(int w, int i)`: Makes the move at place i of word w.", DocumentTest::moveMakes);
        says("NONE if there are no places i and i + 1, or the move may not be made.", DocumentTest::moveNone);
        says("Otherwise 1.", DocumentTest::moveAnswers);
        says("`int turn(int w)`: Word w is turned round, and each letter x becomes 8 - x.", DocumentTest::turnTurns);
        says("Answers its number of letters.", DocumentTest::turnAnswers);
    }

    private static void newObject() {
        RowInsertion before = with(0, "4261357");
        before.kin(0);
        for (int w = 0; w < 2; w++) {
            holdsLetters("new", new RowInsertion(), w, "");
            due("new: code(" + w + ")", new RowInsertion().code(w), 0);
            due("new: drop(" + w + ")", new RowInsertion().drop(w), NONE);
            due("new: turn(" + w + ")", new RowInsertion().turn(w), 0);
        }
    }

    private static void addPuts() {
        eachWord((w, word) -> {
            for (int letter = 1; letter <= 7 && word.length() < 7; letter++) {
                RowInsertion x = with(w, word);
                x.add(w, letter);
                leaves(onWord("add of " + letter, w, word), x, w, word + letter);
            }
        });
    }

    private static void addTests() {
        eachWord((w, word) -> {
            for (int letter : SECONDS) {
                if (letter < 1 || letter > 7) {
                    answers(Member.ADD, w, word, letter, BAD_ARG);
                } else if (word.length() == 7) {
                    answers(Member.ADD, w, word, letter, FULL);
                }
            }
        });
    }

    private static void addCounts() {
        eachWord((w, word) -> {
            RowInsertion x = with(w, "");
            for (int i = 0; i < word.length(); i++) {
                due(onWord("add of letter " + i, w, word), x.add(w, PlainWords.letterIn(word, i)), i + 1);
            }
        });
    }

    private static void dropTakes() {
        eachWord((w, word) -> {
            RowInsertion x = with(w, word);
            for (int size = word.length() - 1; size >= 0; size--) {
                x.drop(w);
                leaves(onWord("drop", w, word), x, w, word.substring(0, size));
            }
            due(onWord("drop after the first letter", w, word), x.drop(w), NONE);
            leaves(onWord("drop after the first letter", w, word), x, w, "");
        });
    }

    private static void dropAnswers() {
        eachWord((w, word) -> {
            RowInsertion x = with(w, word);
            for (int i = word.length() - 1; i >= 0; i--) {
                due(onWord("drop of letter " + i, w, word), x.drop(w), PlainWords.letterIn(word, i));
            }
        });
    }

    private static void exchangeExchanges() {
        eachPair((w, word, i) -> {
            RowInsertion x = with(w, word);
            x.exchange(w, i);
            leaves(onWord("exchange at " + i, w, word), x, w, PlainWords.exchanged(word, i));
        });
    }

    private static void exchangeNone() {
        eachNoPair((w, word, i) -> answers(Member.EXCHANGE, w, word, i, NONE));
    }

    private static void exchangeAnswers() {
        eachPair((w, word, i) -> {
            // It is a move just if the call that makes moves alone would make it.
            int moved = with(w, word).move(w, i);
            int exchanged = with(w, word).exchange(w, i);
            due(onWord("exchange at " + i, w, word), exchanged, PlainWords.isMove(word, i) ? 1 : 0);
            due(onWord("exchange beside move at " + i, w, word), exchanged, moved == 1 ? 1 : 0);
        });
    }

    private static void moveMakes() {
        eachPair((w, word, i) -> {
            if (PlainWords.isMove(word, i)) {
                RowInsertion x = with(w, word);
                x.move(w, i);
                leaves(onWord("move at " + i, w, word), x, w, PlainWords.exchanged(word, i));
            }
        });
    }

    private static void moveNone() {
        eachNoPair((w, word, i) -> answers(Member.MOVE, w, word, i, NONE));
        eachPair((w, word, i) -> {
            if (!PlainWords.isMove(word, i)) {
                answers(Member.MOVE, w, word, i, NONE);
            }
        });
    }

    private static void moveAnswers() {
        eachPair((w, word, i) -> {
            if (PlainWords.isMove(word, i)) {
                due(onWord("move at " + i, w, word), with(w, word).move(w, i), 1);
            }
        });
    }

    private static void turnTurns() {
        eachWord((w, word) -> {
            RowInsertion x = with(w, word);
            x.turn(w);
            leaves(onWord("turn", w, word), x, w, PlainWords.turned(word));
            x.turn(w);
            leaves(onWord("a second turn", w, word), x, w, word);
        });
    }

    private static void turnAnswers() {
        eachWord((w, word) -> due(onWord("turn", w, word), with(w, word).turn(w), word.length()));
    }

    // ---- Promises 7 and 8 ----

    private static void questions() {
        says("`int letter(int w, int i)`: The letter in place i of word w; NONE if there is none.",
                DocumentTest::letterAnswers);
        says("`int code(int w)`: The code of word w.", DocumentTest::codeAnswers);
    }

    private static void letterAnswers() {
        eachWord((w, word) -> {
            for (int i : SECONDS) {
                boolean there = i >= 0 && i < word.length();
                answers(Member.LETTER, w, word, i, there ? PlainWords.letterIn(word, i) : NONE);
            }
        });
    }

    private static void codeAnswers() {
        eachWord((w, word) -> {
            answers(Member.CODE, w, word, 0, PlainWords.codeOf(word));
            // Also where the word came about otherwise than by adding.
            RowInsertion x = with(w, PlainWords.turned(word));
            x.turn(w);
            due(onWord("code after turn", w, word), x.code(w), PlainWords.codeOf(word));
        });
    }

    // ---- Promises 9 to 11 ----

    private static void kinOfWords() {
        says("`int kin(int w)`: How many kin word w has.", DocumentTest::kinCounts);
        says("`int kinAt(int w, int n)`: The code of the kin of word w with n others before it; "
                + "NONE if there is none.", DocumentTest::kinAtAnswers);
        says("`int related()`: 1 if word 1 is among the kin of word 0, else 0.", DocumentTest::relatedAnswers);
    }

    private static void kinCounts() {
        eachWord((w, word) -> answers(Member.KIN, w, word, 0, PlainWords.kinOf(word).size()));
    }

    private static void kinAtAnswers() {
        eachWord((w, word) -> {
            List<String> kin = PlainWords.kinOf(word);
            for (int n = 0; n < kin.size(); n++) {
                answers(Member.KIN_AT, w, word, n, PlainWords.codeOf(kin.get(n)));
            }
            answers(Member.KIN_AT, w, word, kin.size(), NONE);
            for (int n : SECONDS) {
                if (n < 0 || n >= kin.size()) {
                    answers(Member.KIN_AT, w, word, n, NONE);
                }
            }
        });
    }

    private static void relatedAnswers() {
        for (String word : WORDS) {
            List<String> kin = PlainWords.kinOf(word);
            for (String one : kin) {
                relatedDue(word, one, 1);
            }
            for (int i = 0; i < word.length() - 1; i++) {
                String other = PlainWords.exchanged(word, i);
                relatedDue(word, other, kin.contains(other) ? 1 : 0);
            }
            relatedDue(word, OTHER, kin.contains(OTHER) ? 1 : 0);
            if (!word.isEmpty()) {
                relatedDue(word, word.substring(1), 0);
                relatedDue(word, word.substring(0, word.length() - 1), 0);
            }
        }
    }

    private static void relatedDue(String zero, String one, int want) {
        RowInsertion x = new RowInsertion();
        fill(x, 0, zero);
        fill(x, 1, one);
        String call = "related() of '" + zero + "' and '" + one + "'";
        due(call, x.related(), want);
        holdsLetters(call, x, 0, zero);
        holdsLetters(call, x, 1, one);
    }

    // ---- Promises 12 to 15 ----

    private static void partsOfWords() {
        says("`int rising(int w, int k)`: The greatest number of places of word w that at most k rising parts "
                + "can have together; BAD_ARG if k is not 0 to 3.", () -> partsAnswer(Member.RISING));
        says("`int falling(int w, int k)`: The greatest number of places of word w that at most k falling parts "
                + "can have together; BAD_ARG if k is not 0 to 3.", () -> partsAnswer(Member.FALLING));
        says("`int risingOf(int w, int n)`: The greatest number of places that a rising part of the first n letters "
                + "of word w can have; BAD_ARG if n is not 0 to the number of letters.",
                DocumentTest::risingOfAnswers);
        says("`int descents(int w)`: In how many places i the letter in place i of word w is greater "
                + "than the one in place i + 1.", DocumentTest::descentsAnswers);
    }

    private static void partsAnswer(Member member) {
        boolean rising = member == Member.RISING;
        eachWord((w, word) -> {
            for (int k : SECONDS) {
                boolean inRange = k >= 0 && k <= 3;
                answers(member, w, word, k, inRange ? PlainWords.mostPlaces(word, k, rising) : BAD_ARG);
            }
        });
    }

    private static void risingOfAnswers() {
        eachWord((w, word) -> {
            for (int n : SECONDS) {
                boolean inRange = n >= 0 && n <= word.length();
                int want = inRange ? PlainWords.mostPlaces(word.substring(0, n), 1, true) : BAD_ARG;
                answers(Member.RISING_OF, w, word, n, want);
            }
        });
    }

    private static void descentsAnswers() {
        eachWord((w, word) -> answers(Member.DESCENTS, w, word, 0, PlainWords.descentsOf(word)));
    }

    // ---- Not promised, and whether all that the document says stands above ----

    private static void notPromised() {
        tellsOfNoCall("How the state is held inside the object is free, as are the speed of each call, "
                + "the text of toString and the behaviour of equals and hashCode.");
        tellsOfNoCall("Use of one object from several threads at once is not promised to be safe.");
        tellsOfNoCall("Nothing is promised beyond the answers and state changes described above, "
                + "and nothing about an object after its 512th call.");
    }

    private static void compareWithDocument() throws Exception {
        sentence = "the sentences of the document";
        if (!Files.exists(DOCUMENT)) {
            System.out.println(DOCUMENT + " is not there: its sentences are not compared");
            return;
        }
        // The face is FaceTest's; headings are no sentences.
        String text = Files.readString(DOCUMENT).replaceAll("(?s)```.*?```", "").replaceAll("(?m)^#.*$", "");
        List<String> there = Arrays.asList(text.trim().split("\\s+"));
        List<String> here = Arrays.asList(String.join(" ", quoted).split("\\s+"));
        int same = 0;
        while (same < there.size() && same < here.size() && there.get(same).equals(here.get(same))) {
            same++;
        }
        if (same < there.size() || same < here.size()) {
            told("the document goes on '" + from(there, same) + "', and the test '" + from(here, same) + "'");
        }
    }

    private static String from(List<String> words, int start) {
        return String.join(" ", words.subList(start, Math.min(words.size(), start + 8)));
    }
}
