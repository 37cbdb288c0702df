import java.util.ArrayList;
import java.util.Arrays;
import java.util.List;

// One test for each sentence of the document that names an edge: too small, too
// large, empty, full, a wrap-around, a refused call. A test that fails is
// printed under the sentence that it is of.
public final class EdgesTest {
    private static final int BAD_ARG = -1;
    private static final int FULL = -2;
    private static final int NONE = -4;
    // 256, 65536 and the like are 0 or 1 if only their low bits are looked at.
    private static final int[] NOT_WORDS = {-1, -2, 2, 3, 7, 8, 256, 257, 65536, 65537,
        Integer.MIN_VALUE, Integer.MIN_VALUE + 1, Integer.MAX_VALUE - 1, Integer.MAX_VALUE};
    private static final int[] NOT_LETTERS = {0, -1, -7, 8, 9, 15, 257, 65537,
        Integer.MIN_VALUE, Integer.MIN_VALUE + 1, Integer.MAX_VALUE};
    private static final int[] NOT_PARTS = {-1, -3, 4, 5, 7, 256, 65537,
        Integer.MIN_VALUE, Integer.MIN_VALUE + 1, Integer.MAX_VALUE};
    // Far from every place, count and number of kin, at both ends and past a byte or a short.
    private static final int[] FAR = {-7, -2, -1, 8, 32, 256, 257, 65536, 65537, Integer.MIN_VALUE,
        Integer.MIN_VALUE + 1, Integer.MAX_VALUE - 1, Integer.MAX_VALUE};
    private static final String[] STATES = {"", "1", "7", "22", "12", "213", "1324", "65432",
        "123321", "4444444", "1234567", "7654321", "4261357"};

    private static final int TOLD_OF_EACH = 5;
    private static String sentence = "";
    private static int wrongInSentence = 0;
    private static int wrong = 0;

    private interface Body {
        int on(RowInsertion x, int w, int a);
    }

    /** The calls on a word w; a is the other argument, for those that have one. */
    private enum Call {
        ADD("add", true, RowInsertion::add),
        DROP("drop", false, (x, w, a) -> x.drop(w)),
        EXCHANGE("exchange", true, RowInsertion::exchange),
        MOVE("move", true, RowInsertion::move),
        TURN("turn", false, (x, w, a) -> x.turn(w)),
        LETTER("letter", true, RowInsertion::letter),
        CODE("code", false, (x, w, a) -> x.code(w)),
        KIN("kin", false, (x, w, a) -> x.kin(w)),
        KIN_AT("kinAt", true, RowInsertion::kinAt),
        RISING("rising", true, RowInsertion::rising),
        FALLING("falling", true, RowInsertion::falling),
        RISING_OF("risingOf", true, RowInsertion::risingOf),
        DESCENTS("descents", false, (x, w, a) -> x.descents(w));

        private final String name;
        private final boolean hasArgument;
        private final Body body;

        Call(String name, boolean hasArgument, Body body) {
            this.name = name;
            this.hasArgument = hasArgument;
            this.body = body;
        }

        int on(RowInsertion x, int w, int a) {
            return body.on(x, w, a);
        }

        String told(int w, int a) {
            return name + "(" + w + (hasArgument ? ", " + a : "") + ")";
        }

        boolean mayChange() {
            return this == ADD || this == DROP || this == EXCHANGE || this == MOVE || this == TURN;
        }
    }

    public static void main(String[] args) {
        terms();
        movesAndKin();
        parts();
        allCalls();
        changingPromises();
        wordPromises();
        kinPromises();
        partPromises();
        System.out.println(wrong == 0 ? "all answers are as due" : wrong + " answers are not as due");
        if (wrong != 0) {
            System.exit(1);
        }
    }

    private static void test(String of, Runnable body) {
        sentence = of;
        wrongInSentence = 0;
        try {
            body.run();
        } catch (RuntimeException | StackOverflowError e) {
            fault("a call threw " + e);
        }
    }

    private static void fault(String what) {
        wrong++;
        wrongInSentence++;
        if (wrongInSentence <= TOLD_OF_EACH) {
            System.out.println("[" + sentence + "] " + what);
        }
    }

    private static void due(String call, int got, int want) {
        if (got != want) {
            fault(call + " answered " + got + ", due is " + want);
        }
    }

    /** A new object whose words have the digits of the texts as letters. */
    private static RowInsertion with(String zero, String one) {
        RowInsertion x = new RowInsertion();
        fill(x, 0, zero);
        fill(x, 1, one);
        return x;
    }

    private static void fill(RowInsertion x, int w, String letters) {
        for (int i = 0; i < letters.length(); i++) {
            x.add(w, letters.charAt(i) - '0');
        }
    }

    private static int codeOf(String letters) {
        return letters.isEmpty() ? 0 : Integer.parseInt(letters, 8);
    }

    private static void holds(String after, RowInsertion x, String zero, String one) {
        holdsWord(after, x, 0, zero);
        holdsWord(after, x, 1, one);
    }

    private static void holdsWord(String after, RowInsertion x, int w, String letters) {
        due("after " + after + " code(" + w + ")", x.code(w), codeOf(letters));
        for (int i = 0; i < letters.length(); i++) {
            due("after " + after + " letter(" + w + ", " + i + ")", x.letter(w, i), letters.charAt(i) - '0');
        }
        due("after " + after + " letter(" + w + ", " + letters.length() + ")", x.letter(w, letters.length()), NONE);
        // The greatest beginning allowed tells the number of letters once more.
        due("after " + after + " risingOf past the end", x.risingOf(w, letters.length() + 1), BAD_ARG);
    }

    /**
     * On either word: the call answers as due and leaves that word as told. The
     * other word stands there to be mistaken for it, and stays as it is.
     */
    private static void answers(Call call, String word, int a, String other, int want, String after) {
        for (int w = 0; w < 2; w++) {
            RowInsertion x = w == 0 ? with(word, other) : with(other, word);
            String told = call.told(w, a) + " with '" + word + "' there and '" + other + "' in the other word";
            due(told, call.on(x, w, a), want);
            holds(told, x, w == 0 ? after : other, w == 0 ? other : after);
        }
    }

    /** The call is refused with the code, and again when made again, and changes nothing. */
    private static void refused(Call call, String word, int a, String other, int code) {
        answers(call, word, a, other, code, word);
        RowInsertion x = with(word, other);
        call.on(x, 0, a);
        due(call.told(0, a) + " made again with '" + word + "' there", call.on(x, 0, a), code);
        holds(call.told(0, a) + " made again", x, word, other);
    }

    /** The question is answered and changes nothing. */
    private static void asked(Call call, String word, int a, String other, int want) {
        answers(call, word, a, other, want, word);
    }

    // ---- Terms: words, letters, places, codes ----

    private static void terms() {
        test("Terms: there are two words, 0 and 1", EdgesTest::twoWords);
        test("Terms: a row of at most 7 letters", EdgesTest::atMostSevenLetters);
        test("Terms: letters, numbers from 1 to 7", EdgesTest::lettersFromOneToSeven);
        test("Terms: its places are counted from 0", EdgesTest::placesFromZero);
        test("Terms: the code is 0 for the empty word", EdgesTest::codeOfTheEmptyWord);
        test("Terms: otherwise 8 times the code of the word without its last letter, plus its last letter",
                EdgesTest::codeStepByStep);
        test("Terms: the constants", EdgesTest::constants);
    }

    private static void twoWords() {
        RowInsertion x = new RowInsertion();
        due("add(0, 3)", x.add(0, 3), 1);
        holds("add(0, 3)", x, "3", "");
        due("add(1, 5)", x.add(1, 5), 1);
        holds("add(1, 5)", x, "3", "5");
        due("add(1, 6)", x.add(1, 6), 2);
        holds("add(1, 6)", x, "3", "56");
        due("drop(0)", x.drop(0), 3);
        holds("drop(0)", x, "", "56");
        due("exchange(1, 0)", x.exchange(1, 0), 0);
        holds("exchange(1, 0)", x, "", "65");
    }

    private static void atMostSevenLetters() {
        RowInsertion x = with("1111111", "777777");
        due("letter(0, 6) of seven letters", x.letter(0, 6), 1);
        due("add(0, 1) to seven letters", x.add(0, 1), FULL);
        holds("add(0, 1) to seven letters", x, "1111111", "777777");
        due("add(1, 7) to six letters beside seven", x.add(1, 7), 7);
        due("add(1, 7) to seven letters", x.add(1, 7), FULL);
        holds("add(1, 7) to seven letters", x, "1111111", "7777777");
    }

    private static void lettersFromOneToSeven() {
        for (int letter = 1; letter <= 7; letter++) {
            answers(Call.ADD, "", letter, "4", 1, "" + letter);
            answers(Call.ADD, "666666", letter, "4", 7, "666666" + letter);
        }
        for (int letter : NOT_LETTERS) {
            refused(Call.ADD, "", letter, "4", BAD_ARG);
        }
    }

    private static void placesFromZero() {
        asked(Call.LETTER, "7153426", 0, "", 7);
        asked(Call.LETTER, "7153426", 6, "", 6);
        answers(Call.EXCHANGE, "7153426", 0, "", 1, "1753426");
        answers(Call.EXCHANGE, "7153426", 5, "", 1, "7153462");
    }

    private static void codeOfTheEmptyWord() {
        asked(Call.CODE, "", 0, "1", 0);
        asked(Call.KIN_AT, "", 0, "1", 0);
        RowInsertion x = with("7", "7");
        x.drop(0);
        due("code(0) after the only letter was dropped", x.code(0), 0);
        due("code(1) beside it", x.code(1), 7);
    }

    private static void codeStepByStep() {
        for (String word : new String[] {"1111111", "7777777", "1234567", "7654321", "4261357"}) {
            RowInsertion x = new RowInsertion();
            int want = 0;
            for (int i = 0; i < word.length(); i++) {
                int last = word.charAt(i) - '0';
                x.add(1, last);
                want = 8 * want + last;
                due("code(1) of the first " + (i + 1) + " letters of " + word, x.code(1), want);
            }
        }
        asked(Call.CODE, "1", 0, "", 1);
        asked(Call.CODE, "11", 0, "", 9);
        asked(Call.CODE, "1111111", 0, "", 299593);
        asked(Call.CODE, "7777777", 0, "", 2097151);
    }

    private static void constants() {
        due("BAD_ARG", RowInsertion.BAD_ARG, BAD_ARG);
        due("FULL", RowInsertion.FULL, FULL);
        due("NONE", RowInsertion.NONE, NONE);
    }

    // ---- Terms: moves and kin ----

    private static void movesAndKin() {
        test("Terms: a move exchanges the letters in places i and i + 1", EdgesTest::moveExchangesTwoPlaces);
        test("Terms: which must not be equal", EdgesTest::equalLettersMakeNoMove);
        test("Terms: x the smaller one of the two and z the greater one", EdgesTest::smallerAndGreaterEitherWay);
        test("Terms: a place i - 1 with a letter y such that x < y <= z", EdgesTest::letterBefore);
        test("Terms: if there is a place i - 1", EdgesTest::noPlaceBefore);
        test("Terms: a place i + 2 with a letter y such that x <= y < z", EdgesTest::letterBehind);
        test("Terms: or there is a place i + 2", EdgesTest::noPlaceBehind);
        test("Terms: the one letter or the other", EdgesTest::eitherLetter);
        test("Terms: kin come of it by any number of moves", EdgesTest::anyNumberOfMoves);
        test("Terms: itself among them", EdgesTest::itselfAmongItsKin);
        test("Terms: by the first place in which they differ", EdgesTest::firstPlaceThatDiffers);
        test("Terms: the smaller letter first", EdgesTest::smallerLetterFirst);
    }

    /** Both calls agree on whether it is a move; only exchange is made if it isn't. */
    private static void moveDue(String word, int i, boolean may) {
        String exchanged = word.substring(0, i) + word.charAt(i + 1) + word.charAt(i) + word.substring(i + 2);
        answers(Call.MOVE, word, i, "", may ? 1 : NONE, may ? exchanged : word);
        answers(Call.EXCHANGE, word, i, "", may ? 1 : 0, exchanged);
    }

    private static void moveExchangesTwoPlaces() {
        answers(Call.MOVE, "1324567", 0, "213", 1, "3124567");
        answers(Call.MOVE, "7713266", 2, "213", 1, "7731266");
        answers(Call.MOVE, "7654657", 5, "213", 1, "7654675");
    }

    private static void equalLettersMakeNoMove() {
        for (int x = 1; x <= 7; x++) {
            moveDue("" + x + x, 0, false);
            for (int y = 1; y <= 7; y++) {
                moveDue("" + y + x + x, 1, false);
                moveDue("" + x + x + y, 0, false);
                moveDue("" + y + x + x + y, 1, false);
            }
        }
    }

    private static void smallerAndGreaterEitherWay() {
        moveDue("213", 1, true);
        moveDue("231", 1, true);
        moveDue("132", 0, true);
        moveDue("312", 0, true);
        moveDue("113", 1, false);
        moveDue("131", 1, false);
        moveDue("133", 0, false);
        moveDue("313", 0, false);
    }

    private static void letterBefore() {
        for (int x = 1; x <= 7; x++) {
            for (int z = x + 1; z <= 7; z++) {
                for (int y = 1; y <= 7; y++) {
                    boolean may = x < y && y <= z;
                    moveDue("" + y + x + z, 1, may);
                    moveDue("" + y + z + x, 1, may);
                }
            }
        }
        // The edges by hand: y = x, x + 1, z, z + 1.
        moveDue("224", 1, false);
        moveDue("324", 1, true);
        moveDue("424", 1, true);
        moveDue("524", 1, false);
    }

    private static void noPlaceBefore() {
        for (int x = 1; x <= 7; x++) {
            for (int z = 1; z <= 7; z++) {
                moveDue("" + x + z, 0, false);
            }
        }
        // A letter that would fit stands last, as if place -1 were the end.
        moveDue("1372", 0, false);
        moveDue("1373", 0, false);
        moveDue("1377772", 0, false);
    }

    private static void letterBehind() {
        for (int x = 1; x <= 7; x++) {
            for (int z = x + 1; z <= 7; z++) {
                for (int y = 1; y <= 7; y++) {
                    boolean may = x <= y && y < z;
                    moveDue("" + x + z + y, 0, may);
                    moveDue("" + z + x + y, 0, may);
                }
            }
        }
        // The edges by hand: y = x - 1, x, z - 1, z.
        moveDue("241", 0, false);
        moveDue("242", 0, true);
        moveDue("243", 0, true);
        moveDue("244", 0, false);
    }

    private static void noPlaceBehind() {
        // A letter that would fit stands first, as if the places went round.
        moveDue("1713", 2, false);
        moveDue("2713", 2, false);
        moveDue("2777713", 5, false);
        // And one that was dropped, behind the end.
        RowInsertion x = with("7132", "7132");
        x.drop(0);
        due("move(0, 1) of 713 after 2 was dropped", x.move(0, 1), NONE);
        due("move(1, 1) of 7132", x.move(1, 1), 1);
        holds("these moves", x, "713", "7312");
    }

    private static void eitherLetter() {
        moveDue("2132", 1, true);
        moveDue("2137", 1, true);
        moveDue("7132", 1, true);
        moveDue("7137", 1, false);
        moveDue("1133", 1, false);
        moveDue("3131", 1, true);
        moveDue("1131", 1, true);
        moveDue("3133", 1, true);
    }

    /** The words named are kin, all there are, in their order; so they are from each of them. */
    private static void kinDue(String... all) {
        for (String start : all) {
            asked(Call.KIN, start, 0, "2121", all.length);
            for (int n = 0; n < all.length; n++) {
                asked(Call.KIN_AT, start, n, "2121", codeOf(all[n]));
            }
            asked(Call.KIN_AT, start, all.length, "2121", NONE);
        }
    }

    private static void anyNumberOfMoves() {
        // No move, one move, and two: 1342, 1324, 3124 in a row of moves.
        kinDue("1234");
        kinDue("213", "231");
        kinDue("1324", "1342", "3124");
        // 2134567 comes of 2345671 by five moves and by no fewer.
        kinDue("2134567", "2314567", "2341567", "2345167", "2345617", "2345671");
        RowInsertion x = with("2345671", "2134567");
        due("related of 2345671 and 2134567", x.related(), 1);
        due("kin of 4261357", with("4261357", "").kin(0), 35);
    }

    private static void itselfAmongItsKin() {
        for (String word : STATES) {
            RowInsertion x = with("", word);
            int own = 0;
            int count = x.kin(1);
            for (int n = 0; n < count && n < 100; n++) {
                own += x.kinAt(1, n) == x.code(1) ? 1 : 0;
            }
            due("how often " + word + " is among its own kin", own, 1);
            due("related of " + word + " and itself", with(word, word).related(), 1);
        }
        kinDue("");
        kinDue("12");
        kinDue("7654321");
    }

    private static void firstPlaceThatDiffers() {
        // By the last place 1342 would be first.
        kinDue("1324", "1342", "3124");
        kinDue("1243", "1423", "4123");
        kinDue("2143", "2413");
    }

    private static void smallerLetterFirst() {
        kinDue("121", "211");
        kinDue("212", "221");
        kinDue("617", "671");
    }

    // ---- Terms: parts ----

    private static void parts() {
        test("Terms: rising, the letters never become smaller", EdgesTest::equalLettersRise);
        test("Terms: falling, each is smaller than the one before", EdgesTest::equalLettersDoNotFall);
        test("Terms: the empty set is both", EdgesTest::emptySetIsAPart);
        test("Terms: single places are both", EdgesTest::singlePlacesAreParts);
    }

    private static void equalLettersRise() {
        asked(Call.RISING, "22", 1, "", 2);
        asked(Call.RISING, "21", 1, "", 1);
        asked(Call.RISING, "12", 1, "", 2);
        asked(Call.RISING, "1111111", 1, "", 7);
        asked(Call.RISING, "7777777", 1, "", 7);
        asked(Call.RISING, "1322331", 1, "", 5);
        asked(Call.RISING_OF, "22", 2, "", 2);
        asked(Call.RISING_OF, "21", 2, "", 1);
    }

    private static void equalLettersDoNotFall() {
        asked(Call.FALLING, "22", 1, "", 1);
        asked(Call.FALLING, "21", 1, "", 2);
        asked(Call.FALLING, "12", 1, "", 1);
        asked(Call.FALLING, "1111111", 1, "", 1);
        asked(Call.FALLING, "7777777", 1, "", 1);
        asked(Call.FALLING, "3322113", 1, "", 3);
    }

    private static void emptySetIsAPart() {
        for (int k = 0; k <= 3; k++) {
            asked(Call.RISING, "", k, "4444444", 0);
            asked(Call.FALLING, "", k, "7654321", 0);
        }
        asked(Call.RISING_OF, "4", 0, "", 0);
        // Parts that find no place left.
        asked(Call.RISING, "4", 3, "", 1);
        asked(Call.FALLING, "4", 3, "", 1);
        asked(Call.RISING, "45", 3, "", 2);
        asked(Call.FALLING, "45", 3, "", 2);
    }

    private static void singlePlacesAreParts() {
        for (int letter = 1; letter <= 7; letter++) {
            asked(Call.RISING, "" + letter, 1, "", 1);
            asked(Call.FALLING, "" + letter, 1, "", 1);
            asked(Call.RISING_OF, "" + letter, 1, "", 1);
        }
        for (int k = 1; k <= 3; k++) {
            asked(Call.RISING, "7654321", k, "", k);
            asked(Call.FALLING, "1234567", k, "", k);
        }
    }

    // ---- Terms: what is true of every call ----

    private static void allCalls() {
        test("Terms: no call ever throws", EdgesTest::noCallThrows);
        test("Terms: a refused call changes nothing", EdgesTest::refusedCallsChangeNothing);
        test("Terms: questions change nothing, as nothing is said of a change", EdgesTest::questionsChangeNothing);
        test("Terms: a word w that is not 0 or 1 answers BAD_ARG", EdgesTest::notAWord);
        test("Terms: tested first", EdgesTest::wordIsTestedFirst);
        test("What it is: an object is used for at most 512 calls", EdgesTest::all512Calls);
    }

    private static int[] allArguments() {
        int[] all = Arrays.copyOf(FAR, FAR.length + 10);
        for (int a = 0; a < 10; a++) {
            all[FAR.length + a] = a - 1;
        }
        return all;
    }

    private static int[] argumentsOf(Call call) {
        return call.hasArgument ? allArguments() : new int[] {0};
    }

    private static void noCallThrows() {
        for (String state : STATES) {
            for (Call call : Call.values()) {
                for (int a : argumentsOf(call)) {
                    call.on(with(state, state), 0, a);
                    call.on(with(state, state), 1, a);
                    for (int w : NOT_WORDS) {
                        call.on(with(state, state), w, a);
                    }
                }
            }
            for (String other : STATES) {
                with(state, other).related();
            }
        }
    }

    private static List<Integer> stateOf(RowInsertion x) {
        List<Integer> state = new ArrayList<>();
        for (int w = 0; w < 2; w++) {
            state.add(x.code(w));
            for (int i = 0; i < 8; i++) {
                state.add(x.letter(w, i));
                // Accepted up to the number of letters, which it so tells.
                state.add(x.risingOf(w, i));
            }
        }
        return state;
    }

    private static void unchangedBy(Call call, boolean onlyIfRefused) {
        for (String zero : STATES) {
            for (String one : new String[] {"", "213", "4261357"}) {
                for (int a : argumentsOf(call)) {
                    for (int w = -1; w <= 2; w++) {
                        RowInsertion x = with(zero, one);
                        List<Integer> before = stateOf(x);
                        int answer = call.on(x, w, a);
                        if ((answer < 0 || !onlyIfRefused) && !stateOf(x).equals(before)) {
                            fault(call.told(w, a) + " with '" + zero + "' and '" + one + "' answered "
                                    + answer + " and changed the codes to " + x.code(0) + " and " + x.code(1));
                        }
                    }
                }
            }
        }
    }

    private static void refusedCallsChangeNothing() {
        for (Call call : Call.values()) {
            if (call.mayChange()) {
                unchangedBy(call, true);
            }
        }
    }

    private static void questionsChangeNothing() {
        for (Call call : Call.values()) {
            if (!call.mayChange()) {
                unchangedBy(call, false);
            }
        }
        for (String zero : STATES) {
            for (String one : STATES) {
                RowInsertion x = with(zero, one);
                x.related();
                holds("related()", x, zero, one);
            }
        }
    }

    private static void notAWord() {
        // With these letters and this argument no call on word 0 or 1 is refused.
        for (Call call : Call.values()) {
            for (int w = 0; w < 2; w++) {
                int answer = call.on(with("2132", "2132"), w, 1);
                due(call.told(w, 1) + " answers 0 or more", answer < 0 ? 0 : 1, 1);
            }
            for (int w : NOT_WORDS) {
                RowInsertion x = with("2132", "2132");
                due(call.told(w, 1), call.on(x, w, 1), BAD_ARG);
                holds(call.told(w, 1), x, "2132", "2132");
            }
        }
    }

    private static void wordIsTestedFirst() {
        for (int w : NOT_WORDS) {
            // Both words full, then both empty: FULL and NONE would be due for a word that is there.
            onNoWord(Call.ADD, "1234567", w, 1);
            onNoWord(Call.ADD, "1234567", w, 8);
            onNoWord(Call.ADD, "", w, 0);
            onNoWord(Call.DROP, "", w, 0);
            for (int a : allArguments()) {
                onNoWord(Call.EXCHANGE, "", w, a);
                onNoWord(Call.MOVE, "", w, a);
                onNoWord(Call.LETTER, "", w, a);
                onNoWord(Call.KIN_AT, "", w, a == 0 ? 1 : a);
                onNoWord(Call.MOVE, "1234567", w, a);
                onNoWord(Call.RISING, "12", w, a);
                onNoWord(Call.FALLING, "12", w, a);
                onNoWord(Call.RISING_OF, "12", w, a);
            }
        }
    }

    private static void onNoWord(Call call, String both, int w, int a) {
        RowInsertion x = with(both, both);
        String told = call.told(w, a) + " with '" + both + "' in both words";
        due(told, call.on(x, w, a), BAD_ARG);
        holds(told, x, both, both);
    }

    private static void all512Calls() {
        RowInsertion x = new RowInsertion();
        for (int call = 1; call <= 512; call += 8) {
            String at = " in the eight calls from call " + call;
            due("add(0, 2)" + at, x.add(0, 2), 1);
            due("add(0, 1)" + at, x.add(0, 1), 2);
            due("add(0, 3)" + at, x.add(0, 3), 3);
            due("kinAt(0, 1)" + at, x.kinAt(0, 1), codeOf("231"));
            due("drop(1)" + at, x.drop(1), NONE);
            due("drop(0)" + at, x.drop(0), 3);
            due("drop(0)" + at, x.drop(0), 1);
            due("drop(0)" + at, x.drop(0), 2);
        }
        RowInsertion full = with("1324567", "4261357");
        for (int call = 15; call <= 512; call++) {
            due("move(0, 0) as call " + call, full.move(0, 0), 1);
        }
    }

    // ---- Promises 1 to 6 ----

    private static void changingPromises() {
        test("1: both words are empty", EdgesTest::newWordsAreEmpty);
        test("2 add: puts a letter at the end", EdgesTest::addAtTheEnd);
        test("2 add: letter not 1 to 7 answers BAD_ARG", EdgesTest::addNoLetter);
        test("2 add: FULL", EdgesTest::addToAFullWord);
        test("2 add: tested in this order", EdgesTest::addOrderOfTests);
        test("2 add: otherwise the number of letters", EdgesTest::addAnswersTheNumber);
        test("3 drop: takes the last letter off; otherwise the letter", EdgesTest::dropTheLast);
        test("3 drop: NONE if it is empty", EdgesTest::dropFromTheEmptyWord);
        test("4 exchange: NONE if there are no such places", EdgesTest::exchangeNoPlaces);
        test("4 exchange: whether that is a move or not", EdgesTest::exchangeMoveOrNot);
        test("4 exchange: otherwise 1 if it is a move, else 0", EdgesTest::exchangeTellsMoves);
        test("5 move: NONE if there are no places i and i + 1", EdgesTest::moveNoPlaces);
        test("5 move: NONE if the move may not be made", EdgesTest::moveMayNot);
        test("5 move: otherwise 1", EdgesTest::moveMade);
        test("6 turn: the word is turned round", EdgesTest::turnRound);
        test("6 turn: each letter x becomes 8 - x", EdgesTest::turnLetters);
        test("6 turn: answers its number of letters", EdgesTest::turnAnswersTheNumber);
    }

    private static void newWordsAreEmpty() {
        RowInsertion used = with("4261357", "1324567");
        used.kin(0);
        used.turn(1);
        // Nothing of one object is found in the next one.
        holds("new", new RowInsertion(), "", "");
        for (int w = 0; w < 2; w++) {
            due("drop(" + w + ") of a new object", new RowInsertion().drop(w), NONE);
            due("turn(" + w + ") of a new object", new RowInsertion().turn(w), 0);
            due("kin(" + w + ") of a new object", new RowInsertion().kin(w), 1);
            due("add(" + w + ", 7) to a new object", new RowInsertion().add(w, 7), 1);
        }
        due("related() of a new object", new RowInsertion().related(), 1);
    }

    private static void addAtTheEnd() {
        answers(Call.ADD, "", 3, "12", 1, "3");
        answers(Call.ADD, "3", 1, "12", 2, "31");
        answers(Call.ADD, "314152", 6, "12", 7, "3141526");
    }

    private static void addNoLetter() {
        for (int letter : NOT_LETTERS) {
            refused(Call.ADD, "", letter, "12", BAD_ARG);
            refused(Call.ADD, "314152", letter, "12", BAD_ARG);
        }
    }

    private static void addToAFullWord() {
        for (int letter = 1; letter <= 7; letter++) {
            refused(Call.ADD, "1234567", letter, "", FULL);
            refused(Call.ADD, "7777777", letter, "123456", FULL);
            // Not full for want of one letter, though the other word is.
            answers(Call.ADD, "123456", letter, "7777777", 7, "123456" + letter);
        }
        RowInsertion x = with("1234567", "1");
        x.drop(0);
        due("add(0, 2) after a drop from a full word", x.add(0, 2), 7);
        due("add(0, 2) once more", x.add(0, 2), FULL);
        holds("this", x, "1234562", "1");
    }

    private static void addOrderOfTests() {
        for (int letter : NOT_LETTERS) {
            refused(Call.ADD, "1234567", letter, "", BAD_ARG);
            refused(Call.ADD, "7777777", letter, "1111111", BAD_ARG);
        }
    }

    private static void addAnswersTheNumber() {
        for (int w = 0; w < 2; w++) {
            RowInsertion x = w == 0 ? with("", "444") : with("444", "");
            for (int size = 1; size <= 7; size++) {
                due("add(" + w + ", 5) as letter " + size, x.add(w, 5), size);
            }
        }
    }

    private static void dropTheLast() {
        answers(Call.DROP, "7", 0, "12", 7, "");
        answers(Call.DROP, "1", 0, "12", 1, "");
        answers(Call.DROP, "71", 0, "12", 1, "7");
        answers(Call.DROP, "1234567", 0, "12", 7, "123456");
        answers(Call.DROP, "7654321", 0, "", 1, "765432");
    }

    private static void dropFromTheEmptyWord() {
        refused(Call.DROP, "", 0, "1234567", NONE);
        refused(Call.DROP, "", 0, "", NONE);
        RowInsertion x = with("35", "");
        due("drop of two letters", x.drop(0), 5);
        due("drop of one letter", x.drop(0), 3);
        due("drop of the emptied word", x.drop(0), NONE);
        due("add after that", x.add(0, 6), 1);
        holds("this", x, "6", "");
    }

    private static void noPlaces(Call call) {
        // The other word has the places.
        for (int i = 0; i < 6; i++) {
            refused(call, "", i, "1324657", NONE);
            refused(call, "5", i, "1324657", NONE);
        }
        refused(call, "12", 1, "2132", NONE);
        refused(call, "21", 1, "2132", NONE);
        refused(call, "213", 2, "21132", NONE);
        // Falling, rising and mixed words: what stands beside the wrong places must not count.
        for (String word : STATES) {
            refused(call, word, word.length() - 1, "1324657", NONE);
            refused(call, word, word.length(), "1324657", NONE);
            for (int i : FAR) {
                refused(call, word, i, "1324657", NONE);
            }
        }
    }

    private static void exchangeNoPlaces() {
        noPlaces(Call.EXCHANGE);
    }

    private static void exchangeMoveOrNot() {
        answers(Call.EXCHANGE, "213", 1, "", 1, "231");
        answers(Call.EXCHANGE, "123", 1, "", 0, "132");
        answers(Call.EXCHANGE, "12", 0, "", 0, "21");
        answers(Call.EXCHANGE, "21", 0, "", 0, "12");
        answers(Call.EXCHANGE, "1234567", 0, "", 0, "2134567");
        answers(Call.EXCHANGE, "1234567", 5, "", 0, "1234576");
        answers(Call.EXCHANGE, "7654321", 5, "", 0, "7654312");
        answers(Call.EXCHANGE, "2772", 1, "", 0, "2772");
    }

    private static void exchangeTellsMoves() {
        answers(Call.EXCHANGE, "1324567", 0, "", 1, "3124567");
        answers(Call.EXCHANGE, "1234657", 5, "", 1, "1234675");
        answers(Call.EXCHANGE, "33", 0, "", 0, "33");
        answers(Call.EXCHANGE, "7137", 1, "", 0, "7317");
        // The way back is a move just if the way there was.
        RowInsertion x = with("7132", "7137");
        due("exchange(0, 1) of 7132", x.exchange(0, 1), 1);
        due("exchange(0, 1) of 7312", x.exchange(0, 1), 1);
        due("exchange(1, 1) of 7137", x.exchange(1, 1), 0);
        due("exchange(1, 1) of 7317", x.exchange(1, 1), 0);
        holds("there and back", x, "7132", "7137");
    }

    private static void moveNoPlaces() {
        noPlaces(Call.MOVE);
    }

    private static void moveMayNot() {
        for (int i = 0; i < 6; i++) {
            refused(Call.MOVE, "1234567", i, "1324657", NONE);
            refused(Call.MOVE, "7654321", i, "1324657", NONE);
            refused(Call.MOVE, "4444444", i, "1324657", NONE);
        }
        refused(Call.MOVE, "12", 0, "132", NONE);
        refused(Call.MOVE, "21", 0, "132", NONE);
        refused(Call.MOVE, "7137", 1, "7132", NONE);
        refused(Call.MOVE, "7317", 1, "7132", NONE);
    }

    private static void moveMade() {
        answers(Call.MOVE, "1324567", 0, "1234567", 1, "3124567");
        answers(Call.MOVE, "1234657", 5, "1234567", 1, "1234675");
        answers(Call.MOVE, "213", 1, "", 1, "231");
        answers(Call.MOVE, "132", 0, "", 1, "312");
    }

    private static void turnDue(String before, String after) {
        answers(Call.TURN, before, 0, "12", before.length(), after);
        answers(Call.TURN, after, 0, "12", before.length(), before);
    }

    private static void turnRound() {
        turnDue("", "");
        turnDue("4", "4");
        turnDue("35", "35");
        turnDue("53", "53");
        turnDue("345", "345");
        turnDue("3444444", "4444445");
        turnDue("1122346", "2456677");
    }

    private static void turnLetters() {
        for (int x = 1; x <= 7; x++) {
            turnDue("" + x, "" + (8 - x));
        }
        turnDue("1111111", "7777777");
        turnDue("1234567", "1234567");
        turnDue("7654321", "7654321");
    }

    private static void turnAnswersTheNumber() {
        String word = "";
        for (int size = 0; size <= 7; size++) {
            answers(Call.TURN, word, 0, "35", size, word);
            word += "4";
        }
    }

    // ---- Promises 7, 8 and 15 ----

    private static void wordPromises() {
        test("7 letter: the letter in place i", EdgesTest::letterInEachPlace);
        test("7 letter: NONE if there is none", EdgesTest::letterNone);
        test("8 code: the code of word w", EdgesTest::codeOfEachWord);
        test("15 descents: the letter in place i is greater than the one in place i + 1", EdgesTest::descentsEdges);
    }

    private static void letterInEachPlace() {
        for (int i = 0; i < 7; i++) {
            asked(Call.LETTER, "7153426", i, "", "7153426".charAt(i) - '0');
        }
        asked(Call.LETTER, "1", 0, "7777777", 1);
    }

    private static void letterNone() {
        for (int i = 0; i < 7; i++) {
            refused(Call.LETTER, "", i, "7153426", NONE);
        }
        refused(Call.LETTER, "7", 1, "7153426", NONE);
        refused(Call.LETTER, "715342", 6, "7153426", NONE);
        refused(Call.LETTER, "7153426", 7, "", NONE);
        for (int i : FAR) {
            refused(Call.LETTER, "", i, "7153426", NONE);
            refused(Call.LETTER, "7153426", i, "", NONE);
        }
        RowInsertion x = with("7153426", "");
        x.drop(0);
        due("letter(0, 6) after it was dropped", x.letter(0, 6), NONE);
    }

    private static void codeOfEachWord() {
        asked(Call.CODE, "", 0, "7777777", 0);
        asked(Call.CODE, "7777777", 0, "", 2097151);
        asked(Call.CODE, "713", 0, "317", 459);
        RowInsertion x = with("1324567", "");
        x.move(0, 0);
        due("code(0) after move", x.code(0), codeOf("3124567"));
        x.exchange(0, 5);
        due("code(0) after exchange", x.code(0), codeOf("3124576"));
        x.turn(0);
        due("code(0) after turn", x.code(0), codeOf("2134675"));
        x.drop(0);
        due("code(0) after drop", x.code(0), codeOf("213467"));
    }

    private static void descentsEdges() {
        asked(Call.DESCENTS, "", 0, "7654321", 0);
        asked(Call.DESCENTS, "1", 0, "7654321", 0);
        asked(Call.DESCENTS, "7", 0, "7654321", 0);
        asked(Call.DESCENTS, "12", 0, "7654321", 0);
        asked(Call.DESCENTS, "22", 0, "7654321", 0);
        asked(Call.DESCENTS, "21", 0, "", 1);
        asked(Call.DESCENTS, "7654321", 0, "", 6);
        asked(Call.DESCENTS, "1234567", 0, "21", 0);
        asked(Call.DESCENTS, "4444444", 0, "21", 0);
        // In the first pair alone, in the last pair alone.
        asked(Call.DESCENTS, "2111111", 0, "", 1);
        asked(Call.DESCENTS, "2222221", 0, "", 1);
        // The last letter has none behind it, not even the first one.
        asked(Call.DESCENTS, "1111112", 0, "", 0);
    }

    // ---- Promises 9 to 11 ----

    private static void kinPromises() {
        test("9 kin: how many kin word w has", EdgesTest::kinCounts);
        test("10 kinAt: with n others before it", EdgesTest::kinAtFirstAndLast);
        test("10 kinAt: NONE if there is none", EdgesTest::kinAtNone);
        test("11 related: 1 if word 1 is among the kin of word 0", EdgesTest::relatedOne);
        test("11 related: else 0", EdgesTest::relatedZero);
    }

    private static void kinCounts() {
        asked(Call.KIN, "", 0, "4261357", 1);
        asked(Call.KIN, "7", 0, "4261357", 1);
        asked(Call.KIN, "12", 0, "4261357", 1);
        asked(Call.KIN, "21", 0, "4261357", 1);
        asked(Call.KIN, "4444444", 0, "4261357", 1);
        asked(Call.KIN, "1234567", 0, "4261357", 1);
        asked(Call.KIN, "7654321", 0, "4261357", 1);
        asked(Call.KIN, "213", 0, "", 2);
        // No word has more.
        asked(Call.KIN, "4261357", 0, "", 35);
        // The count follows the word when it changes.
        RowInsertion x = with("213", "");
        due("kin(0) of 213", x.kin(0), 2);
        x.add(0, 4);
        due("kin(0) of 2134", x.kin(0), 3);
        x.drop(0);
        x.drop(0);
        due("kin(0) of 21", x.kin(0), 1);
    }

    private static void kinAtFirstAndLast() {
        asked(Call.KIN_AT, "", 0, "213", 0);
        asked(Call.KIN_AT, "7", 0, "213", 7);
        asked(Call.KIN_AT, "4444444", 0, "213", codeOf("4444444"));
        asked(Call.KIN_AT, "231", 0, "", codeOf("213"));
        asked(Call.KIN_AT, "213", 1, "", codeOf("231"));
        asked(Call.KIN_AT, "4261357", 0, "213", 668591);
        asked(Call.KIN_AT, "4261357", 34, "213", 1255289);
    }

    private static void kinAtNone() {
        for (int n = 1; n < 7; n++) {
            refused(Call.KIN_AT, "", n, "4261357", NONE);
            refused(Call.KIN_AT, "7", n, "4261357", NONE);
            refused(Call.KIN_AT, "12", n, "4261357", NONE);
        }
        refused(Call.KIN_AT, "213", 2, "4261357", NONE);
        refused(Call.KIN_AT, "4261357", 35, "", NONE);
        refused(Call.KIN_AT, "4261357", 36, "", NONE);
        refused(Call.KIN_AT, "4261357", 5039, "", NONE);
        refused(Call.KIN_AT, "4261357", 5040, "", NONE);
        for (int n : FAR) {
            refused(Call.KIN_AT, "", n, "4261357", NONE);
            refused(Call.KIN_AT, "1324", n, "4261357", NONE);
        }
        refused(Call.KIN_AT, "4261357", -1, "", NONE);
        refused(Call.KIN_AT, "4261357", Integer.MIN_VALUE, "", NONE);
        refused(Call.KIN_AT, "4261357", Integer.MAX_VALUE, "", NONE);
        // Kin of a word asked before are not there for a word that has fewer.
        RowInsertion x = with("4261357", "12");
        due("kinAt(0, 34)", x.kinAt(0, 34), 1255289);
        due("kinAt(1, 1) after it", x.kinAt(1, 1), NONE);
    }

    private static void relatedDue(String zero, String one, int want) {
        for (int w = 0; w < 2; w++) {
            RowInsertion x = w == 0 ? with(zero, one) : with(one, zero);
            String told = "related() of " + x.code(0) + " and " + x.code(1);
            due(told, x.related(), want);
            holds(told, x, w == 0 ? zero : one, w == 0 ? one : zero);
        }
    }

    private static void relatedOne() {
        relatedDue("", "", 1);
        relatedDue("7", "7", 1);
        relatedDue("4444444", "4444444", 1);
        relatedDue("213", "231", 1);
        relatedDue("1342", "3124", 1);
        relatedDue("2134567", "2345671", 1);
        RowInsertion x = with("213", "21");
        due("related() of 213 and 21", x.related(), 0);
        x.add(1, 3);
        due("related() of 213 and 213", x.related(), 1);
        x.move(1, 1);
        due("related() of 213 and 231", x.related(), 1);
    }

    private static void relatedZero() {
        relatedDue("", "1", 0);
        relatedDue("", "7777777", 0);
        relatedDue("1", "11", 0);
        relatedDue("213", "2134", 0);
        relatedDue("123456", "1234567", 0);
        // The same letters, and still not kin.
        relatedDue("12", "21", 0);
        relatedDue("213", "132", 0);
        relatedDue("1234567", "7654321", 0);
        // The same shape, with other letters.
        relatedDue("213", "214", 0);
        relatedDue("1111111", "7777777", 0);
    }

    // ---- Promises 12 to 14 ----

    private static void partPromises() {
        test("12 rising: BAD_ARG if k is not 0 to 3", EdgesTest::risingRange);
        test("12 rising: at most k rising parts", EdgesTest::risingAtMost);
        test("12 rising: the greatest number of places together", EdgesTest::risingTogether);
        test("13 falling: BAD_ARG if k is not 0 to 3", EdgesTest::fallingRange);
        test("13 falling: at most k falling parts", EdgesTest::fallingAtMost);
        test("13 falling: the greatest number of places together", EdgesTest::fallingTogether);
        test("14 risingOf: BAD_ARG if n is not 0 to the number of letters", EdgesTest::risingOfRange);
        test("14 risingOf: of the first n letters", EdgesTest::risingOfTheFirst);
    }

    private static void partsDue(Call call, String word, int... want) {
        for (int k = 0; k < want.length; k++) {
            asked(call, word, k, "35", want[k]);
        }
    }

    private static void partsRange(Call call) {
        for (int k : NOT_PARTS) {
            refused(call, "", k, "12", BAD_ARG);
            refused(call, "5", k, "12", BAD_ARG);
            refused(call, "4261357", k, "", BAD_ARG);
        }
    }

    private static void risingRange() {
        partsRange(Call.RISING);
        partsDue(Call.RISING, "7654321", 0, 1, 2, 3);
    }

    private static void risingAtMost() {
        partsDue(Call.RISING, "1234567", 0, 7, 7, 7);
        partsDue(Call.RISING, "2211", 0, 2, 4, 4);
        partsDue(Call.RISING, "321", 0, 1, 2, 3);
        partsDue(Call.RISING, "21", 0, 1, 2, 2);
    }

    private static void risingTogether() {
        // 2345 is the longest part, but the best two are 236 and 145.
        partsDue(Call.RISING, "236145", 0, 4, 6, 6);
        partsDue(Call.RISING, "4261357", 0, 4, 6, 7);
        partsDue(Call.RISING, "7654123", 0, 3, 4, 5);
    }

    private static void fallingRange() {
        partsRange(Call.FALLING);
        partsDue(Call.FALLING, "1234567", 0, 1, 2, 3);
    }

    private static void fallingAtMost() {
        partsDue(Call.FALLING, "7654321", 0, 7, 7, 7);
        partsDue(Call.FALLING, "2211", 0, 2, 4, 4);
        partsDue(Call.FALLING, "123", 0, 1, 2, 3);
        partsDue(Call.FALLING, "12", 0, 1, 2, 2);
        partsDue(Call.FALLING, "4444444", 0, 1, 2, 3);
    }

    private static void fallingTogether() {
        // 5432 is the longest part, but the best two are 541 and 632.
        partsDue(Call.FALLING, "541632", 0, 4, 6, 6);
        partsDue(Call.FALLING, "4261357", 0, 3, 5, 6);
        partsDue(Call.FALLING, "7654123", 0, 5, 6, 7);
    }

    private static void risingOfRange() {
        refused(Call.RISING_OF, "", -1, "1234567", BAD_ARG);
        refused(Call.RISING_OF, "", 1, "1234567", BAD_ARG);
        refused(Call.RISING_OF, "5", 2, "1234567", BAD_ARG);
        refused(Call.RISING_OF, "123456", 7, "1234567", BAD_ARG);
        refused(Call.RISING_OF, "1234567", 8, "", BAD_ARG);
        for (int n : FAR) {
            refused(Call.RISING_OF, "", n, "1234567", BAD_ARG);
            refused(Call.RISING_OF, "1234567", n, "", BAD_ARG);
        }
        asked(Call.RISING_OF, "", 0, "1234567", 0);
        asked(Call.RISING_OF, "1234567", 0, "", 0);
        asked(Call.RISING_OF, "1234567", 7, "", 7);
        asked(Call.RISING_OF, "123456", 6, "", 6);
        RowInsertion x = with("123", "1234567");
        x.drop(0);
        due("risingOf(0, 3) after a drop", x.risingOf(0, 3), BAD_ARG);
        due("risingOf(0, 2) after a drop", x.risingOf(0, 2), 2);
    }

    private static void risingOfTheFirst() {
        partsDue(Call.RISING_OF, "4261357", 0, 1, 1, 2, 2, 2, 3, 4);
        partsDue(Call.RISING_OF, "7771234", 0, 1, 2, 3, 3, 3, 3, 4);
        partsDue(Call.RISING_OF, "7654321", 0, 1, 1, 1, 1, 1, 1, 1);
        partsDue(Call.RISING_OF, "1111111", 0, 1, 2, 3, 4, 5, 6, 7);
    }
}
