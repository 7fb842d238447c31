/** Learning how texts are changed, from examples. */
public final class ExampleLearner {
    public static final int BAD_LETTER = -1;
    public static final int FULL = -2;
    public static final int NONE = -3;
    public static final int BAD_COUNT = -4;

    private static final int LETTERS = 4;
    private static final int LETTER_BITS = 2;
    private static final int LETTER_MASK = 3;
    private static final int LONGEST_TEXT = 6;

    private static final int POSITIONS = 14;
    private static final int FIRST_FROM_END = 7;

    private static final int ATOMS = 200;
    private static final int MOST_ATOMS = 3;

    private static final int MOST_EXAMPLES = 2;
    private static final int PAIRS = 3; // the examples and one more, for IN and OUT
    private static final int GIVEN = 600; // PAIRS times ATOMS

    private static final int PLACES = 7;
    private static final int STATES = 343; // PLACES to the power of PAIRS
    private static final int COUNTS = 1372; // STATES for each number of atoms from 0 to MOST_ATOMS

    private static final int NOWHERE = -1;

    // A pair is an input and an output text. The examples come first and IN and OUT
    // are the pair right behind them, so that the first pairs, up to a number, are
    // either the examples alone or the examples with IN and OUT.
    private int examples = 0;

    // A text is held as a number, its first letter in the lowest bits, so that
    // two texts of one length are equal just if their numbers are.
    private final int[] inLetters = new int[PAIRS];
    private final int[] inLength = new int[PAIRS];
    private final int[] outLetters = new int[PAIRS];
    private final int[] outLength = new int[PAIRS];

    // What each atom gives on each pair's input. No atom gives the empty text,
    // so length 0 stands for nothing at all.
    private final int[] givenLetters = new int[GIVEN];
    private final int[] givenLength = new int[GIVEN];

    // A state tells how many letters of each pair's output stand already: a number
    // with one digit to the base PLACES for each pair, the first pair's lowest.
    // At n * STATES + s: how many lists of n atoms lead from state s to the goal.
    private final int[] counts = new int[COUNTS];

    private final int[] firstAtoms = new int[MOST_ATOMS];
    private long resultLetters = 0;

    public ExampleLearner() {
    }

    public int typeIn(int letter) {
        return append(inLetters, inLength, letter);
    }

    public int typeOut(int letter) {
        return append(outLetters, outLength, letter);
    }

    public void erase() {
        inLetters[examples] = 0;
        inLength[examples] = 0;
        outLetters[examples] = 0;
        outLength[examples] = 0;
    }

    public int learn() {
        if (examples >= MOST_EXAMPLES) {
            return FULL;
        }
        copyPair(examples, examples + 1);
        examples++;
        return examples;
    }

    public int forget() {
        if (examples <= 0) {
            return NONE;
        }
        copyPair(examples, examples - 1);
        examples--;
        return examples;
    }

    public int least() {
        countPrograms(examples);
        return leastCounted();
    }

    public int programs(int count) {
        if (count < 1 || count > MOST_ATOMS) {
            return BAD_COUNT;
        }
        countPrograms(examples);
        return counts[count * STATES];
    }

    public int atom(int i) {
        int length = findFirstProgram();
        if (i < 0 || i >= length) {
            return NONE;
        }
        return firstAtoms[i];
    }

    public boolean can() {
        return ways() > 0;
    }

    public int ways() {
        countPrograms(examples);
        int least = leastCounted();
        if (least == NONE) {
            return 0;
        }
        countPrograms(examples + 1);
        return counts[least * STATES];
    }

    public int resultLength() {
        int atoms = findFirstProgram();
        return turnIn(atoms);
    }

    public int result(int i) {
        int atoms = findFirstProgram();
        int length = turnIn(atoms);
        if (i < 0 || i >= length) {
            return NONE;
        }
        return (int) (resultLetters >> (LETTER_BITS * i)) & LETTER_MASK;
    }

    public boolean right(int atom) {
        if (atom < 0 || atom >= ATOMS) {
            return false;
        }
        giveOnPairs(examples);
        int goal = goalState(examples);
        return advance(0, atom, examples) == goal;
    }

    private int append(int[] letters, int[] lengths, int letter) {
        if (letter < 0 || letter >= LETTERS) {
            return BAD_LETTER;
        }
        int length = lengths[examples];
        if (length >= LONGEST_TEXT) {
            return FULL;
        }
        letters[examples] |= letter << (LETTER_BITS * length);
        lengths[examples] = length + 1;
        return length + 1;
    }

    private void copyPair(int from, int to) {
        inLetters[to] = inLetters[from];
        inLength[to] = inLength[from];
        outLetters[to] = outLetters[from];
        outLength[to] = outLength[from];
    }

    /** The number of the text of so many letters that stands in another behind a place. */
    private static int slice(int letters, int place, int length) {
        int mask = (1 << (LETTER_BITS * length)) - 1;
        return (letters >> (LETTER_BITS * place)) & mask;
    }

    /** A position's place in a text of this length; NOWHERE if it doesn't exist there. */
    private static int placeOf(int position, int length) {
        if (position >= FIRST_FROM_END) {
            int fromEnd = position - FIRST_FROM_END;
            return fromEnd <= length ? length - fromEnd : NOWHERE;
        }
        return position <= length ? position : NOWHERE;
    }

    private void giveOnPairs(int pairs) {
        for (int pair = 0; pair < pairs; pair++) {
            giveOnPair(pair);
        }
    }

    private void giveOnPair(int pair) {
        int base = pair * ATOMS;
        for (int letter = 0; letter < LETTERS; letter++) {
            givenLetters[base + letter] = letter;
            givenLength[base + letter] = 1;
        }
        for (int atom = LETTERS; atom < ATOMS; atom++) {
            int from = placeOf((atom - LETTERS) / POSITIONS, inLength[pair]);
            int to = placeOf((atom - LETTERS) % POSITIONS, inLength[pair]);
            boolean gives = from != NOWHERE && to != NOWHERE && from < to;
            int length = gives ? to - from : 0;
            givenLetters[base + atom] = gives ? slice(inLetters[pair], from, length) : 0;
            givenLength[base + atom] = length;
        }
    }

    /** The state in which the outputs of the first pairs stand whole. */
    private int goalState(int pairs) {
        int goal = 0;
        int unit = 1;
        for (int pair = 0; pair < pairs; pair++) {
            goal += unit * outLength[pair];
            unit *= PLACES;
        }
        return goal;
    }

    /** The state behind this atom; NOWHERE if it doesn't go on as each output does. */
    private int advance(int state, int atom, int pairs) {
        int next = 0;
        int unit = 1;
        int rest = state;
        for (int pair = 0; pair < pairs; pair++) {
            int place = rest % PLACES;
            int length = givenLength[pair * ATOMS + atom];
            if (length == 0 || place + length > outLength[pair]) {
                return NOWHERE;
            }
            if (slice(outLetters[pair], place, length) != givenLetters[pair * ATOMS + atom]) {
                return NOWHERE;
            }
            next += unit * (place + length);
            unit *= PLACES;
            rest /= PLACES;
        }
        return next;
    }

    /** Fills counts for the programs that turn each input of the first pairs into its output. */
    private void countPrograms(int pairs) {
        giveOnPairs(pairs);
        int goal = goalState(pairs);
        for (int state = 0; state <= goal; state++) {
            counts[state] = state == goal ? 1 : 0;
        }
        for (int n = 1; n <= MOST_ATOMS; n++) {
            for (int state = 0; state <= goal; state++) {
                counts[n * STATES + state] = countFrom(state, n, pairs);
            }
        }
    }

    private int countFrom(int state, int n, int pairs) {
        int sum = 0;
        for (int atom = 0; atom < ATOMS; atom++) {
            int next = advance(state, atom, pairs);
            if (next != NOWHERE) {
                sum += counts[(n - 1) * STATES + next];
            }
        }
        return sum;
    }

    /** The least number of atoms of the programs counted last; NONE if there are none. */
    private int leastCounted() {
        for (int n = 1; n <= MOST_ATOMS; n++) {
            if (counts[n * STATES] > 0) {
                return n;
            }
        }
        return NONE;
    }

    /** Puts the first right program into firstAtoms and answers its length, NONE if there is none. */
    private int findFirstProgram() {
        countPrograms(examples);
        int least = leastCounted();
        int state = 0;
        for (int i = 0; i < least; i++) {
            int atom = firstAtomFrom(state, least - i);
            firstAtoms[i] = atom;
            state = advance(state, atom, examples);
        }
        return least;
    }

    /** The smallest atom behind which n - 1 atoms more can lead to the goal. */
    private int firstAtomFrom(int state, int n) {
        for (int atom = 0; atom < ATOMS; atom++) {
            int next = advance(state, atom, examples);
            if (next != NOWHERE && counts[(n - 1) * STATES + next] > 0) {
                return atom;
            }
        }
        // Never reached: this is asked only of states from which n atoms lead to the goal.
        return 0;
    }

    /**
     * Puts what so many of firstAtoms turn IN into into resultLetters and answers its length,
     * NONE if an atom gives nothing or the number is NONE.
     */
    private int turnIn(int atoms) {
        if (atoms == NONE) {
            return NONE;
        }
        giveOnPair(examples);
        resultLetters = 0;
        int length = 0;
        for (int i = 0; i < atoms; i++) {
            int given = examples * ATOMS + firstAtoms[i];
            if (givenLength[given] == 0) {
                return NONE;
            }
            resultLetters |= (long) givenLetters[given] << (LETTER_BITS * length);
            length += givenLength[given];
        }
        return length;
    }
}
