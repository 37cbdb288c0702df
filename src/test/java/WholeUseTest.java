import java.util.ArrayList;
import java.util.Arrays;
import java.util.Collections;
import java.util.EnumSet;
import java.util.List;
import java.util.Random;

// Objects over their whole use: 512 calls each, in which every method occurs,
// each answer compared with the plain words, and no call throws.
public final class WholeUseTest {
    private static final int CALLS = 512;
    private static final int PAIRS = 200;
    private static final int TOLD = 30;
    // 256 and 65537 are 0 and 1 if only their low bits are looked at.
    private static final int[] NOT_WORDS = {-2, -1, 2, 3, 256, 65537, Integer.MIN_VALUE, Integer.MAX_VALUE};
    // Out of every range there is: of letters, places, parts, beginnings and kin.
    private static final int[] FAR = {-8, -1, 36, 256, 257, 5040, 65536, Integer.MIN_VALUE,
        Integer.MIN_VALUE + 1, Integer.MAX_VALUE - 1, Integer.MAX_VALUE};
    private static int wrong = 0;

    /** What a run is like; one that is refused fills both words and then changes nothing. */
    private enum Kind { SHORT_WORDS, FEW_LETTERS, LONG_WORDS, REFUSED }

    public static void main(String[] args) {
        Kind[] kinds = Kind.values();
        for (int pair = 0; pair < PAIRS; pair++) {
            Kind first = kinds[pair % kinds.length];
            Kind second = kinds[pair / kinds.length % kinds.length];
            // Two objects in use at once, their calls by turns.
            Use one = new Use(2 * pair, first);
            Use other = new Use(2 * pair + 1, second);
            for (int call = 1; call <= CALLS; call++) {
                one.call(call);
                other.call(call);
            }
            one.end();
            other.end();
        }
        System.out.println(wrong == 0 ? "all answers are as due" : wrong + " answers are not as due");
        if (wrong != 0) {
            System.exit(1);
        }
    }

    private static void fault(String what) {
        wrong++;
        if (wrong <= TOLD) {
            System.out.println(what);
        }
    }

    private static final class Use {
        private final String run;
        private final Kind kind;
        private final Random random;
        private final RowInsertion x = new RowInsertion();
        private final PlainWords plain = new PlainWords("", "");
        private final List<Member> deck = new ArrayList<>();
        private final EnumSet<Member> used = EnumSet.noneOf(Member.class);
        private int made = 0;
        private boolean threw = false;

        Use(int seed, Kind kind) {
            this.run = "run " + seed + " (" + kind + ")";
            this.kind = kind;
            this.random = new Random(seed);
        }

        void call(int number) {
            if (kind == Kind.REFUSED && number <= 14) {
                make(number, Member.ADD, number % 2, 1 + random.nextInt(7));
            } else if (number == CALLS - 2 || number == CALLS - 1) {
                // What all the calls before have left; the last call is any.
                make(number, Member.CODE, number % 2, 0);
            } else {
                Member member = dealt();
                int w = word(member);
                make(number, member, w, second(member, PlainWords.isWord(w)));
            }
        }

        void end() {
            if (!threw && made != CALLS) {
                fault(run + " has " + made + " calls");
            }
            if (!threw && used.size() != Member.values().length) {
                fault(run + " leaves out " + EnumSet.complementOf(used));
            }
        }

        private void make(int number, Member member, int w, int a) {
            if (threw) {
                return;
            }
            String told = run + ", call " + number + ": " + member.told(w, a)
                    + " with '" + plain.word(0) + "' and '" + plain.word(1) + "'";
            int want = member.due(plain, w, a);
            used.add(member);
            made++;
            try {
                int got = member.on(x, w, a);
                if (got != want) {
                    fault(told + " answered " + got + ", due is " + want);
                }
            } catch (RuntimeException | Error e) {
                // What comes after a call that threw is no use of the object.
                threw = true;
                fault(told + " threw " + e);
            }
        }

        /** From a shuffled deck, so that every method comes up again and again. */
        private Member dealt() {
            if (deck.isEmpty()) {
                deck.addAll(Arrays.asList(Member.values()));
                deck.addAll(Collections.nCopies(moreAdds(), Member.ADD));
                Collections.shuffle(deck, random);
            }
            return deck.remove(deck.size() - 1);
        }

        /** With as many adds as drops words stay short, with more they are mostly full. */
        private int moreAdds() {
            switch (kind) {
                case SHORT_WORDS: return 0;
                case LONG_WORDS: return 4;
                default: return 1;
            }
        }

        private int word(Member member) {
            // A drop or a turn can be refused by its word alone.
            boolean onlyByWord = member == Member.DROP || member == Member.TURN;
            boolean none = kind == Kind.REFUSED ? onlyByWord || random.nextBoolean() : random.nextInt(20) == 0;
            return none ? pick(NOT_WORDS) : random.nextInt(2);
        }

        private int second(Member member, boolean wordIsThere) {
            if (kind == Kind.REFUSED && wordIsThere || random.nextInt(20) == 0) {
                return pick(FAR);
            }
            if (member == Member.ADD) {
                return kind == Kind.FEW_LETTERS ? 1 + random.nextInt(3) : random.nextInt(9);
            }
            return member == Member.KIN_AT ? random.nextInt(37) - 1 : random.nextInt(10) - 1;
        }

        private int pick(int[] from) {
            return from[random.nextInt(from.length)];
        }
    }
}
