// For each promise: ordinary inputs, the edges that the document names, wrong inputs.
public final class PromisesTest {
    private static final int BAD_ARG = -1;
    private static final int FULL = -2;
    private static final int NONE = -4;
    private static final int[] NOT_WORDS = {-1, 2, 3, 7, Integer.MIN_VALUE, Integer.MAX_VALUE};
    private static int wrong = 0;

    public static void main(String[] args) {
        constants();
        newObject();
        add();
        drop();
        exchange();
        move();
        turn();
        letter();
        code();
        kin();
        kinAt();
        related();
        rising();
        falling();
        risingOf();
        descents();
        wordIsTestedFirst();
        refusedCallsChangeNothing();
        answersAloneChangeNothing();
        wordsAreApart();
        objectsAreApart();
        System.out.println(wrong == 0 ? "all answers are as due" : wrong + " answers are not as due");
        if (wrong != 0) {
            System.exit(1);
        }
    }

    private static void due(String call, int got, int want) {
        if (got != want) {
            wrong++;
            System.out.println(call + " answered " + got + ", due is " + want);
        }
    }

    /** A new object whose words have the digits of the texts as letters. */
    private static RowInsertion with(String zero, String one) {
        RowInsertion x = new RowInsertion();
        fill(x, 0, zero);
        fill(x, 1, one);
        return x;
    }

    private static void fill(RowInsertion x, int w, String letters) {
        for (int i = 0; i < letters.length(); i++) {
            due("add of " + letters, x.add(w, letters.charAt(i) - '0'), i + 1);
        }
    }

    private static void holds(String after, RowInsertion x, int w, String letters) {
        due("code(" + w + ") after " + after, x.code(w), codeOf(letters));
        for (int i = 0; i < letters.length(); i++) {
            due("letter(" + w + ", " + i + ") after " + after, x.letter(w, i), letters.charAt(i) - '0');
        }
        due("letter past the end after " + after, x.letter(w, letters.length()), NONE);
    }

    private static void constants() {
        due("BAD_ARG", RowInsertion.BAD_ARG, BAD_ARG);
        due("FULL", RowInsertion.FULL, FULL);
        due("NONE", RowInsertion.NONE, NONE);
    }

    private static void newObject() {
        RowInsertion x = new RowInsertion();
        for (int w = 0; w < 2; w++) {
            holds("new", x, w, "");
            due("new: drop", x.drop(w), NONE);
            due("new: exchange", x.exchange(w, 0), NONE);
            due("new: move", x.move(w, 0), NONE);
            due("new: turn", x.turn(w), 0);
            due("new: kin", x.kin(w), 1);
            due("new: kinAt 0", x.kinAt(w, 0), 0);
            due("new: kinAt 1", x.kinAt(w, 1), NONE);
            due("new: rising", x.rising(w, 3), 0);
            due("new: falling", x.falling(w, 3), 0);
            due("new: risingOf 0", x.risingOf(w, 0), 0);
            due("new: risingOf 1", x.risingOf(w, 1), BAD_ARG);
            due("new: descents", x.descents(w), 0);
        }
        due("new: related", x.related(), 1);
    }

    private static void add() {
        RowInsertion x = new RowInsertion();
        int[] notLetters = {0, -1, 8, 9, 15, Integer.MIN_VALUE, Integer.MAX_VALUE};
        for (int letter : notLetters) {
            due("add(0, " + letter + ") to the empty word", x.add(0, letter), BAD_ARG);
        }
        holds("wrong letters", x, 0, "");
        fill(x, 0, "1234567");
        holds("add", x, 0, "1234567");
        for (int letter = 1; letter <= 7; letter++) {
            due("add(0, " + letter + ") to a full word", x.add(0, letter), FULL);
        }
        for (int letter : notLetters) {
            due("add(0, " + letter + ") to a full word", x.add(0, letter), BAD_ARG);
        }
        holds("add to a full word", x, 0, "1234567");
        fill(x, 1, "7777777");
        holds("add of 7", x, 1, "7777777");
        due("drop", x.drop(0), 7);
        due("add after drop", x.add(0, 4), 7);
        holds("add after drop", x, 0, "1234564");
    }

    private static void drop() {
        RowInsertion x = with("3714", "");
        due("drop", x.drop(0), 4);
        holds("drop", x, 0, "371");
        due("drop", x.drop(0), 1);
        due("drop", x.drop(0), 7);
        due("drop", x.drop(0), 3);
        holds("drop of all", x, 0, "");
        due("drop of the empty word", x.drop(0), NONE);
        due("add after drop of all", x.add(0, 5), 1);
        holds("add after drop of all", x, 0, "5");
    }

    private static void exchangeDue(String before, int i, int want, String after) {
        RowInsertion x = with("", before);
        String call = "exchange(1, " + i + ") of " + before;
        due(call, x.exchange(1, i), want);
        holds(call, x, 1, after);
    }

    private static void exchange() {
        // A letter before: x < y <= z.
        exchangeDue("213", 1, 1, "231");
        exchangeDue("231", 1, 1, "213");
        exchangeDue("112", 1, 0, "121");
        exchangeDue("121", 1, 0, "112");
        exchangeDue("212", 1, 1, "221");
        exchangeDue("221", 1, 1, "212");
        exchangeDue("312", 1, 0, "321");
        exchangeDue("123", 1, 0, "132");
        // A letter behind: x <= y < z.
        exchangeDue("132", 0, 1, "312");
        exchangeDue("312", 0, 1, "132");
        exchangeDue("121", 0, 1, "211");
        exchangeDue("211", 0, 1, "121");
        exchangeDue("122", 0, 0, "212");
        exchangeDue("212", 0, 0, "122");
        exchangeDue("231", 0, 0, "321");
        exchangeDue("123", 0, 0, "213");
        // Letters on both sides; one that fits is enough.
        exchangeDue("2137", 1, 1, "2317");
        exchangeDue("7132", 1, 1, "7312");
        exchangeDue("7137", 1, 0, "7317");
        exchangeDue("1133", 1, 0, "1313");
        // A letter that would fit, but two places off.
        exchangeDue("2713", 2, 0, "2731");
        exchangeDue("1372", 0, 0, "3172");
        // Equal letters never make a move.
        exchangeDue("22", 0, 0, "22");
        exchangeDue("122", 1, 0, "122");
        exchangeDue("2222", 1, 0, "2222");
        // Both ends of a full word.
        exchangeDue("1324567", 0, 1, "3124567");
        exchangeDue("1234657", 5, 1, "1234675");
        exchangeDue("12", 0, 0, "21");
        exchangeDue("12", 1, NONE, "12");
        exchangeDue("5", 0, NONE, "5");
        exchangeDue("", 0, NONE, "");
        exchangeDue("1324567", 6, NONE, "1324567");
        exchangeDue("1324567", 7, NONE, "1324567");
        exchangeDue("1324567", -1, NONE, "1324567");
        exchangeDue("1324567", Integer.MIN_VALUE, NONE, "1324567");
        exchangeDue("1324567", Integer.MAX_VALUE, NONE, "1324567");
        exchangeDue("1324567", Integer.MAX_VALUE - 1, NONE, "1324567");
    }

    private static void moveDue(String before, int i, int want, String after) {
        RowInsertion x = with(before, "");
        String call = "move(0, " + i + ") of " + before;
        due(call, x.move(0, i), want);
        holds(call, x, 0, after);
    }

    private static void move() {
        moveDue("213", 1, 1, "231");
        moveDue("231", 1, 1, "213");
        moveDue("212", 1, 1, "221");
        moveDue("221", 1, 1, "212");
        moveDue("132", 0, 1, "312");
        moveDue("312", 0, 1, "132");
        moveDue("121", 0, 1, "211");
        moveDue("211", 0, 1, "121");
        moveDue("112", 1, NONE, "112");
        moveDue("122", 0, NONE, "122");
        moveDue("123", 0, NONE, "123");
        moveDue("321", 1, NONE, "321");
        moveDue("2137", 1, 1, "2317");
        moveDue("7132", 1, 1, "7312");
        moveDue("7137", 1, NONE, "7137");
        moveDue("2222", 1, NONE, "2222");
        moveDue("1324567", 0, 1, "3124567");
        moveDue("1234657", 5, 1, "1234675");
        moveDue("12", 0, NONE, "12");
        moveDue("12", 1, NONE, "12");
        moveDue("5", 0, NONE, "5");
        moveDue("", 0, NONE, "");
        moveDue("1324567", 6, NONE, "1324567");
        moveDue("1324567", -1, NONE, "1324567");
        moveDue("1324567", Integer.MIN_VALUE, NONE, "1324567");
        moveDue("1324567", Integer.MAX_VALUE, NONE, "1324567");
        moveDue("1324567", Integer.MAX_VALUE - 1, NONE, "1324567");
    }

    private static void turnDue(String before, String after) {
        RowInsertion x = with("", before);
        due("turn(1) of " + before, x.turn(1), before.length());
        holds("turn(1) of " + before, x, 1, after);
        due("second turn(1) of " + before, x.turn(1), before.length());
        holds("second turn(1) of " + before, x, 1, before);
    }

    private static void turn() {
        turnDue("", "");
        turnDue("4", "4");
        turnDue("1", "7");
        turnDue("12", "67");
        turnDue("115", "377");
        turnDue("1234567", "1234567");
        turnDue("7654321", "7654321");
        turnDue("1122346", "2456677");
    }

    private static void letter() {
        RowInsertion x = with("7153", "");
        int[] letters = {7, 1, 5, 3};
        for (int i = 0; i < letters.length; i++) {
            due("letter(0, " + i + ")", x.letter(0, i), letters[i]);
            due("letter(1, " + i + ") of the empty word", x.letter(1, i), NONE);
        }
        int[] notPlaces = {-1, 4, 5, 7, 8, Integer.MIN_VALUE, Integer.MAX_VALUE};
        for (int i : notPlaces) {
            due("letter(0, " + i + ")", x.letter(0, i), NONE);
        }
    }

    private static void code() {
        due("code of the empty word", with("", "1").code(0), 0);
        due("code of 5", with("5", "").code(0), 5);
        due("code of 12", with("12", "").code(0), 10);
        due("code of 713", with("", "713").code(1), 7 * 64 + 8 + 3);
        due("code of 7777777", with("", "7777777").code(1), 2097151);
    }

    private static int codeOf(String letters) {
        return letters.isEmpty() ? 0 : Integer.parseInt(letters, 8);
    }

    /** The words named are kin, all there are, in their order; so they are from each of them. */
    private static void kinDue(String... all) {
        for (String start : all) {
            RowInsertion x = with("", start);
            due("kin(1) of " + start, x.kin(1), all.length);
            for (int n = 0; n < all.length; n++) {
                due("kinAt(1, " + n + ") of " + start, x.kinAt(1, n), codeOf(all[n]));
            }
            due("kinAt(1, " + all.length + ") of " + start, x.kinAt(1, all.length), NONE);
        }
    }

    private static void kin() {
        kinDue("");
        kinDue("5");
        kinDue("12");
        kinDue("21");
        kinDue("33");
        kinDue("213", "231");
        kinDue("132", "312");
        kinDue("121", "211");
        kinDue("212", "221");
        kinDue("2121", "2211");
        kinDue("3142", "3412");
        kinDue("1324", "1342", "3124");
        kinDue("1234567");
        kinDue("4444444");
        kinDue("7654321");
        due("kin of 4261357", with("", "4261357").kin(1), 35);
    }

    private static void kinAt() {
        RowInsertion x = with("4261357", "132");
        int before = 0;
        for (int n = 0; n < 35; n++) {
            int code = x.kinAt(0, n);
            due("kinAt(0, " + n + ") is greater than the one before", code > before ? 1 : 0, 1);
            before = code;
        }
        due("first kin of 4261357", x.kinAt(0, 0), 668591);
        due("last kin of 4261357", x.kinAt(0, 34), 1255289);
        due("kinAt(1, 0)", x.kinAt(1, 0), codeOf("132"));
        due("kinAt(1, 1)", x.kinAt(1, 1), codeOf("312"));
        int[] notThere = {-1, 35, 36, 5040, 5041, Integer.MIN_VALUE, Integer.MAX_VALUE};
        for (int n : notThere) {
            due("kinAt(0, " + n + ")", x.kinAt(0, n), NONE);
            due("kinAt(1, " + n + ")", x.kinAt(1, n), NONE);
        }
    }

    private static void relatedDue(String zero, String one, int want) {
        due("related of " + zero + " and " + one, with(zero, one).related(), want);
        due("related of " + one + " and " + zero, with(one, zero).related(), want);
    }

    private static void related() {
        relatedDue("", "", 1);
        relatedDue("", "1", 0);
        relatedDue("3", "3", 1);
        relatedDue("3", "4", 0);
        relatedDue("12", "12", 1);
        relatedDue("12", "21", 0);
        relatedDue("12", "123", 0);
        relatedDue("213", "231", 1);
        relatedDue("213", "132", 0);
        relatedDue("212", "221", 1);
        relatedDue("122", "212", 0);
        relatedDue("1324", "3124", 1);
        relatedDue("1324", "3142", 0);
        relatedDue("4261357", "2461375", 0);
        RowInsertion x = with("4261357", "");
        int last = x.kinAt(0, 34);
        for (int shift = 18; shift >= 0; shift -= 3) {
            x.add(1, (last >> shift) & 7);
        }
        due("related of 4261357 and its last kin", x.related(), 1);
        x.drop(1);
        due("related after drop", x.related(), 0);
    }

    /** What at most 0, 1, 2 and 3 parts can have together. */
    private static void risingDue(String letters, int... want) {
        RowInsertion x = with("", letters);
        for (int k = 0; k < 4; k++) {
            due("rising(1, " + k + ") of " + letters, x.rising(1, k), want[k]);
        }
    }

    private static void fallingDue(String letters, int... want) {
        RowInsertion x = with("", letters);
        for (int k = 0; k < 4; k++) {
            due("falling(1, " + k + ") of " + letters, x.falling(1, k), want[k]);
        }
    }

    private static void partsOutOfRange(RowInsertion x) {
        int[] notParts = {-1, 4, 5, 7, Integer.MIN_VALUE, Integer.MAX_VALUE};
        for (int k : notParts) {
            for (int w = 0; w < 2; w++) {
                due("rising(" + w + ", " + k + ")", x.rising(w, k), BAD_ARG);
                due("falling(" + w + ", " + k + ")", x.falling(w, k), BAD_ARG);
            }
        }
    }

    private static void rising() {
        risingDue("", 0, 0, 0, 0);
        risingDue("6", 0, 1, 1, 1);
        risingDue("1234567", 0, 7, 7, 7);
        risingDue("7654321", 0, 1, 2, 3);
        risingDue("3333333", 0, 7, 7, 7);
        risingDue("2211", 0, 2, 4, 4);
        risingDue("3141526", 0, 4, 7, 7);
        // 2345 is the longest part, but the best two are 236 and 145.
        risingDue("236145", 0, 4, 6, 6);
        risingDue("4125637", 0, 5, 7, 7);
        risingDue("4261357", 0, 4, 6, 7);
        risingDue("7654123", 0, 3, 4, 5);
        partsOutOfRange(with("", "4261357"));
    }

    private static void falling() {
        fallingDue("", 0, 0, 0, 0);
        fallingDue("6", 0, 1, 1, 1);
        fallingDue("7654321", 0, 7, 7, 7);
        fallingDue("1234567", 0, 1, 2, 3);
        // Equal letters do not fall.
        fallingDue("3333333", 0, 1, 2, 3);
        fallingDue("2211", 0, 2, 4, 4);
        fallingDue("3141526", 0, 2, 4, 6);
        fallingDue("4261357", 0, 3, 5, 6);
        fallingDue("7654123", 0, 5, 6, 7);
        partsOutOfRange(with("7777777", "1"));
    }

    private static void risingOf() {
        RowInsertion x = with("4261357", "2211");
        int[] longest = {0, 1, 1, 2, 2, 2, 3, 4};
        for (int n = 0; n < longest.length; n++) {
            due("risingOf(0, " + n + ")", x.risingOf(0, n), longest[n]);
        }
        int[] equal = {0, 1, 2, 2, 2};
        for (int n = 0; n < equal.length; n++) {
            due("risingOf(1, " + n + ")", x.risingOf(1, n), equal[n]);
        }
        int[] notBeginnings = {-1, 8, 9, Integer.MIN_VALUE, Integer.MAX_VALUE};
        for (int n : notBeginnings) {
            due("risingOf(0, " + n + ")", x.risingOf(0, n), BAD_ARG);
            due("risingOf(1, " + n + ")", x.risingOf(1, n), BAD_ARG);
        }
        due("risingOf(1, 5)", x.risingOf(1, 5), BAD_ARG);
    }

    private static void descents() {
        String[] words = {"", "5", "12", "21", "22", "2121", "2211", "1234567", "7654321", "3141526", "4444444", "7111111", "2222221"};
        int[] counts = {0, 0, 0, 1, 0, 2, 1, 0, 6, 3, 0, 1, 1};
        for (int j = 0; j < words.length; j++) {
            due("descents of " + words[j], with(words[j], "").descents(0), counts[j]);
            due("descents of " + words[j], with("", words[j]).descents(1), counts[j]);
        }
    }

    private static void wordIsTestedFirst() {
        RowInsertion[] objects = {new RowInsertion(), with("1324567", "4261357")};
        int[] others = {-1, 0, 1, 9, Integer.MAX_VALUE};
        for (RowInsertion x : objects) {
            for (int w : NOT_WORDS) {
                String of = " of word " + w;
                due("drop" + of, x.drop(w), BAD_ARG);
                due("turn" + of, x.turn(w), BAD_ARG);
                due("code" + of, x.code(w), BAD_ARG);
                due("kin" + of, x.kin(w), BAD_ARG);
                due("descents" + of, x.descents(w), BAD_ARG);
                for (int other : others) {
                    due("add" + of, x.add(w, other), BAD_ARG);
                    due("exchange" + of, x.exchange(w, other), BAD_ARG);
                    due("move" + of, x.move(w, other), BAD_ARG);
                    due("letter" + of, x.letter(w, other), BAD_ARG);
                    due("kinAt" + of, x.kinAt(w, other), BAD_ARG);
                    due("rising" + of, x.rising(w, other), BAD_ARG);
                    due("falling" + of, x.falling(w, other), BAD_ARG);
                    due("risingOf" + of, x.risingOf(w, other), BAD_ARG);
                }
            }
        }
        holds("calls on words that are not there", objects[0], 0, "");
        holds("calls on words that are not there", objects[0], 1, "");
        holds("calls on words that are not there", objects[1], 0, "1324567");
        holds("calls on words that are not there", objects[1], 1, "4261357");
    }

    private static void refusedCallsChangeNothing() {
        RowInsertion x = with("1324567", "");
        x.add(0, 1);
        x.add(0, 0);
        x.add(1, 8);
        x.drop(1);
        x.exchange(0, 6);
        x.exchange(0, -1);
        x.move(0, 3);
        x.move(0, 6);
        x.move(1, 0);
        holds("refused calls", x, 0, "1324567");
        holds("refused calls", x, 1, "");
    }

    private static void answersAloneChangeNothing() {
        RowInsertion x = with("4261357", "132");
        for (int w = 0; w < 2; w++) {
            x.kin(w);
            x.kinAt(w, 1);
            x.related();
            x.rising(w, 2);
            x.falling(w, 2);
            x.risingOf(w, 2);
            x.descents(w);
        }
        holds("calls that only answer", x, 0, "4261357");
        holds("calls that only answer", x, 1, "132");
    }

    private static void wordsAreApart() {
        RowInsertion x = with("213", "132");
        x.move(0, 1);
        holds("move(0, 1)", x, 1, "132");
        x.turn(1);
        holds("turn(1)", x, 0, "231");
        x.drop(0);
        x.exchange(0, 0);
        holds("drop and exchange of word 0", x, 0, "32");
        holds("drop and exchange of word 0", x, 1, "657");
        due("kin(0)", x.kin(0), 1);
        due("kin(1)", x.kin(1), 2);
        due("kin(0)", x.kin(0), 1);
        due("kinAt(0, 1)", x.kinAt(0, 1), NONE);
    }

    private static void objectsAreApart() {
        RowInsertion x = with("213", "1");
        RowInsertion y = with("7", "654");
        x.kin(0);
        y.kin(0);
        x.turn(1);
        holds("calls on another object", y, 0, "7");
        holds("calls on another object", y, 1, "654");
        holds("calls on another object", x, 0, "213");
        holds("calls on another object", x, 1, "7");
    }
}
