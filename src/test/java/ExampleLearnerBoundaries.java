/**
 * The boundary cases that the document names, sentence by sentence and in its order: the value just
 * inside and just outside of each bound, numbers far outside of it, the empty and the full text, none
 * and two examples, and of two reasons to refuse a call the one that is named first. A wrong answer
 * is printed with the sentence that it breaks. No object is used for more than 512 calls.
 */
public final class ExampleLearnerBoundaries {
    private static final int BAD_LETTER = -1;
    private static final int FULL = -2;
    private static final int NONE = -3;
    private static final int BAD_COUNT = -4;

    // Outside of every range of the document; some fall inside if they are cut to fewer bits or doubled.
    private static final int[] FAR = {
        Integer.MIN_VALUE, Integer.MIN_VALUE + 1, Integer.MIN_VALUE + 2, -1073741824, -1073741823,
        -65536, -65535, -1000, -256, -255, -254, -200, -32, -31,
        200, 256, 257, 258, 1000, 65536, 65537, 65538,
        1073741824, 1073741825, Integer.MAX_VALUE - 1, Integer.MAX_VALUE,
    };

    private static final String EMPTY = "";
    private static final String SIX = "302113";

    private static int wrong = 0;
    private static String sentence = "";

    public static void main(String[] args) {
        whatItIs();
        publicFace();
        termsLetters();
        termsTexts();
        termsPositions();
        termsPositionsExist();
        termsLetterAtoms();
        termsSlices();
        termsPlacesInOrder();
        termsNothingAtAll();
        termsProgramsOfOneToThree();
        termsEachGivesSomething();
        termsUpToTwoExamples();
        termsNoExamples();
        termsTwoExamples();
        termsOrderFewerAtoms();
        termsOrderFirstAtoms();
        termsOrderSecondAtoms();
        termsOrderThirdAtoms();
        termsOrderSmallerNumbers();
        termsTwoTexts();
        aheadTestsInOrder();
        aheadRefusedChangesNothing();
        aheadAskingChangesNothing();
        aheadOneQuestionChangesNothing();
        promise1NoExamples();
        promise1BothEmpty();
        promise2BadLetter();
        promise2Full();
        promise2Length();
        promise3BadLetter();
        promise3Full();
        promise3Length();
        promise4Empty();
        promise4WithNoneOneAndTwo();
        promise5BecomeAnExample();
        promise5Stay();
        promise5Full();
        promise5HowMany();
        promise6TakesTheLast();
        promise6None();
        promise6HowMany();
        promise7Least();
        promise7None();
        promise8BadCount();
        promise8HowMany();
        promise8AtMost();
        promise9AtomI();
        promise9NoProgram();
        promise9NoSuchAtom();
        promise10LeastCount();
        promise10NoneAndTwoExamples();
        promise11LeastCount();
        promise11NoneRight();
        promise12Length();
        promise12NoProgram();
        promise12NotAnything();
        promise12AtMost();
        promise13LetterI();
        promise13NoLetter();
        promise13NoResult();
        promise14Right();
        promise14Outside();
        System.out.println(wrong == 0 ? "all boundary cases hold" : wrong + " answers are not as due");
        if (wrong != 0) {
            System.exit(1);
        }
    }

    private static void sentence(String where, String words) {
        sentence = where + " (" + words + ")";
    }

    private static void due(String call, int got, int want) {
        if (got != want) {
            wrong++;
            System.out.println(sentence + ": " + call + " answered " + got + ", due is " + want);
        }
    }

    private static void due(String call, boolean got, boolean want) {
        due(call, got ? 1 : 0, want ? 1 : 0);
    }

    // ---- objects and texts

    private static int slice(int p, int q) {
        return 4 + 14 * p + q;
    }

    private static void typeIn(ExampleLearner x, String in) {
        for (int i = 0; i < in.length(); i++) {
            due("typeIn, letter " + i + " of " + in, x.typeIn(in.charAt(i) - '0'), i + 1);
        }
    }

    private static void typeOut(ExampleLearner x, String out) {
        for (int i = 0; i < out.length(); i++) {
            due("typeOut, letter " + i + " of " + out, x.typeOut(out.charAt(i) - '0'), i + 1);
        }
    }

    private static ExampleLearner type(ExampleLearner x, String in, String out) {
        x.erase();
        typeIn(x, in);
        typeOut(x, out);
        return x;
    }

    /** An object that has learnt examples, given as input, output, input, output; IN and OUT are empty. */
    private static ExampleLearner learnt(String... texts) {
        ExampleLearner x = new ExampleLearner();
        for (int i = 0; i < texts.length; i += 2) {
            type(x, texts[i], texts[i + 1]);
            due("learn", x.learn(), i / 2 + 1);
        }
        x.erase();
        return x;
    }

    /** Its one right program gives the whole input, so that result tells IN and ways whether OUT is IN. */
    private static ExampleLearner copier() {
        return learnt("01", "01", "012", "012");
    }

    /** Its one right program gives the whole input three times. */
    private static ExampleLearner tripler() {
        return learnt("01", "010101", "3", "333");
    }

    /** No program turns a text into the empty one, so none is right. */
    private static ExampleLearner hopeless() {
        return learnt("012", EMPTY);
    }

    private static String zeros(int length) {
        return "000000000000000000".substring(0, length);
    }

    /** Two examples of which one atom alone is right, and IN and OUT the same text: all of it as it was. */
    private static void dueCopierWith(ExampleLearner x, String text) {
        due("learn: there are two examples", x.learn(), FULL);
        due("programs(1)", x.programs(1), 1);
        due("atom(0)", x.atom(0), slice(0, 7));
        dueResult(x, text);
        due("ways: OUT is IN", x.ways(), text.isEmpty() ? 0 : 1);
    }

    private static void dueResult(ExampleLearner x, String want) {
        due("resultLength", x.resultLength(), want.isEmpty() ? NONE : want.length());
        for (int i = 0; i < want.length(); i++) {
            due("result(" + i + ")", x.result(i), want.charAt(i) - '0');
        }
        due("result(" + want.length() + ")", x.result(want.length()), NONE);
    }

    private static void dueNoResult(ExampleLearner x) {
        due("resultLength", x.resultLength(), NONE);
        for (int i = -1; i <= 18; i++) {
            due("result(" + i + ")", x.result(i), NONE);
        }
    }

    private static void dueAtoms(ExampleLearner x, int... atoms) {
        due("atom(-1)", x.atom(-1), NONE);
        for (int i = 0; i < atoms.length; i++) {
            due("atom(" + i + ")", x.atom(i), atoms[i]);
        }
        for (int i = atoms.length; i <= 4; i++) {
            due("atom(" + i + ")", x.atom(i), NONE);
        }
    }

    private static void dueCounts(ExampleLearner x, int one, int two, int three) {
        due("programs(1)", x.programs(1), one);
        due("programs(2)", x.programs(2), two);
        due("programs(3)", x.programs(3), three);
    }

    private static void dueRight(ExampleLearner x, String what, int atom, boolean want) {
        due(what + ": right(" + atom + ")", x.right(atom), want);
    }

    // ---- What it is

    private static final int LAP = 22;

    private static void whatItIs() {
        sentence("What it is", "used for at most 512 calls after it has been made");
        for (int more = 0; more < LAP; more++) {
            fiveHundredAndTwelveCalls(more);
        }
    }

    /** With 0 to LAP - 1 refused calls more ahead of the laps, each call of a lap is once the 512th. */
    private static void fiveHundredAndTwelveCalls(int more) {
        ExampleLearner x = new ExampleLearner();
        typeIn(x, "01");
        typeOut(x, "01");
        due("learn", x.learn(), 1);
        due("typeIn(2)", x.typeIn(2), 3);
        due("typeOut(2)", x.typeOut(2), 3);
        due("learn", x.learn(), 2);
        for (int i = 0; i < more; i++) {
            due("typeIn(4)", x.typeIn(4), BAD_LETTER);
        }
        for (int call = 9 + more; call <= 512; call++) {
            lapCall(x, (call - 9 - more) % LAP, "call " + call + ", ");
        }
    }

    /** A lap begins and ends with two examples that the whole input is right for, the second still typed. */
    private static void lapCall(ExampleLearner x, int step, String call) {
        switch (step) {
            case 0: due(call + "forget", x.forget(), 1); break;
            case 1: due(call + "learn", x.learn(), 2); break;
            case 2: due(call + "learn", x.learn(), FULL); break;
            case 3: due(call + "typeIn(4)", x.typeIn(4), BAD_LETTER); break;
            case 4: due(call + "typeOut(-1)", x.typeOut(-1), BAD_LETTER); break;
            case 5: due(call + "least", x.least(), 1); break;
            case 6: due(call + "programs(1)", x.programs(1), 1); break;
            case 7: due(call + "programs(0)", x.programs(0), BAD_COUNT); break;
            case 8: due(call + "atom(0)", x.atom(0), slice(0, 7)); break;
            case 9: due(call + "can", x.can(), true); break;
            case 10: due(call + "ways", x.ways(), 1); break;
            case 11: due(call + "resultLength", x.resultLength(), 3); break;
            case 12: due(call + "result(2)", x.result(2), 2); break;
            case 13: due(call + "right(11)", x.right(11), true); break;
            case 14: due(call + "right(200)", x.right(200), false); break;
            case 15: x.erase(); break;
            case 16: due(call + "typeIn(0)", x.typeIn(0), 1); break;
            case 17: due(call + "typeOut(0)", x.typeOut(0), 1); break;
            case 18: due(call + "typeIn(1)", x.typeIn(1), 2); break;
            case 19: due(call + "typeOut(1)", x.typeOut(1), 2); break;
            case 20: due(call + "typeIn(2)", x.typeIn(2), 3); break;
            default: due(call + "typeOut(2)", x.typeOut(2), 3); break;
        }
    }

    // ---- The public face

    private static void publicFace() {
        sentence("The public face", "the four constants");
        due("BAD_LETTER", ExampleLearner.BAD_LETTER, BAD_LETTER);
        due("FULL", ExampleLearner.FULL, FULL);
        due("NONE", ExampleLearner.NONE, NONE);
        due("BAD_COUNT", ExampleLearner.BAD_COUNT, BAD_COUNT);
    }

    // ---- Terms

    private static void termsLetters() {
        sentence("Terms", "LETTERS are 0 to 3");
        for (int letter = 0; letter <= 3; letter++) {
            ExampleLearner x = copier();
            due("typeIn(" + letter + ")", x.typeIn(letter), 1);
            due("typeOut(" + letter + ")", x.typeOut(letter), 1);
            dueResult(x, "" + letter);
            due("ways", x.ways(), 1);
        }
        due("typeIn(-1)", new ExampleLearner().typeIn(-1), BAD_LETTER);
        due("typeOut(-1)", new ExampleLearner().typeOut(-1), BAD_LETTER);
        due("typeIn(4)", new ExampleLearner().typeIn(4), BAD_LETTER);
        due("typeOut(4)", new ExampleLearner().typeOut(4), BAD_LETTER);
    }

    private static void termsTexts() {
        sentence("Terms", "a TEXT is a list of at most six letters");
        String[] texts = {EMPTY, "0", "3", "00000", "33333", "000000", "333333", SIX};
        for (String text : texts) {
            ExampleLearner x = type(copier(), text, text);
            dueCopierWith(x, text);
            boolean six = text.length() == 6;
            due("typeIn behind " + text, x.typeIn(3), six ? FULL : text.length() + 1);
            due("typeOut behind " + text, x.typeOut(3), six ? FULL : text.length() + 1);
            dueCopierWith(x, six ? text : text + "3");
        }
        // The empty list and zeros are different texts, and so are zeros of different lengths.
        for (int length = 0; length <= 6; length++) {
            ExampleLearner x = type(copier(), zeros(6), zeros(length));
            due("ways of 000000 and " + length + " zeros", x.ways(), length == 6 ? 1 : 0);
        }
    }

    /** Where position p lies in a text of n letters, counted out; -1 where it doesn't exist. */
    private static int place(int p, int n) {
        if (p <= 6) {
            return n >= p ? p : -1;
        }
        return n >= p - 7 ? n - (p - 7) : -1;
    }

    private static String given(int p, int q, String in) {
        int from = place(p, in.length());
        int to = place(q, in.length());
        return from >= 0 && to >= 0 && from < to ? in.substring(from, to) : null;
    }

    private static void termsPositions() {
        sentence("Terms", "k from 0 to 6 behind the beginning, 7 + k before the end");
        ExampleLearner first = learnt(SIX, "3");
        ExampleLearner last = learnt("302110", "0");
        ExampleLearner whole = learnt(SIX, SIX);
        int[] begin = {0, 13};
        int[] second = {1, 12};
        int[] lastButOne = {5, 8};
        int[] end = {6, 7};
        for (int i = 0; i < 2; i++) {
            for (int j = 0; j < 2; j++) {
                dueRight(first, "the first letter", slice(begin[i], second[j]), true);
                dueRight(last, "the last letter", slice(lastButOne[i], end[j]), true);
                dueRight(whole, "all six", slice(begin[i], end[j]), true);
            }
        }
        due("just these give all six", whole.programs(1), 4);
        dueRight(whole, "five letters", slice(0, 5), false);
        dueRight(whole, "five letters", slice(12, 7), false);
    }

    private static void termsPositionsExist() {
        sentence("Terms", "it EXISTS in a text of at least k letters");
        for (int n = 1; n <= 6; n++) {
            String in = SIX.substring(0, n);
            ExampleLearner x = learnt(in, in);
            dueRight(x, in + ", position " + n + " exists", slice(0, n), true);
            dueRight(x, in + ", position 7 + " + n + " exists", slice(7 + n, 7), true);
            for (int k = n + 1; k <= 6; k++) {
                dueRight(x, in + ", position " + k + " does not exist", slice(0, k), false);
                dueRight(x, in + ", position 7 + " + k + " does not exist", slice(7 + k, 7), false);
            }
            due(in + ": two positions at its beginning and two at its end", x.programs(1), n == 1 ? 5 : 4);
        }
        due("in the empty text no slice gives anything", learnt(EMPTY, "3").programs(1), 1);
    }

    private static void termsLetterAtoms() {
        sentence("Terms", "0 to 3 gives just that letter");
        String[] inputs = {EMPTY, "0", SIX};
        for (String in : inputs) {
            for (int letter = 0; letter <= 3; letter++) {
                ExampleLearner x = learnt(in, "" + letter);
                for (int atom = 0; atom <= 3; atom++) {
                    dueRight(x, in + " into " + letter, atom, atom == letter);
                }
                dueRight(learnt(in, "" + letter + letter), in + " into the letter twice", letter, false);
            }
        }
    }

    private static void termsSlices() {
        sentence("Terms", "4 + 14 * p + q gives the letters from position p to position q");
        for (int n = 0; n <= 6; n++) {
            String in = SIX.substring(0, n);
            for (int from = 0; from < n; from++) {
                for (int to = from + 1; to <= n; to++) {
                    allSlices(in, in.substring(from, to));
                }
            }
        }
    }

    private static void allSlices(String in, String out) {
        ExampleLearner x = learnt(in, out);
        for (int p = 0; p <= 13; p++) {
            for (int q = 0; q <= 13; q++) {
                dueRight(x, in + " into " + out, slice(p, q), out.equals(given(p, q, in)));
            }
        }
    }

    private static void termsPlacesInOrder() {
        sentence("Terms", "if p's place lies before q's");
        ExampleLearner x = learnt("21", "2");
        dueRight(x, "21, place 0 to place 1", slice(0, 1), true);
        dueRight(x, "21, place 0 to place 1", slice(9, 8), true);
        dueRight(x, "21, place 1 to place 0", slice(1, 0), false);
        dueRight(x, "21, place 1 to place 0", slice(8, 9), false);
        dueRight(x, "21, place 0 twice", slice(0, 9), false);
        // Each place of six letters has two positions; from one to itself or to the other lies nothing.
        for (String out : new String[] {EMPTY, "3", SIX}) {
            ExampleLearner y = learnt(SIX, out);
            for (int k = 0; k <= 6; k++) {
                dueRight(y, "place " + k + " twice", slice(k, k), false);
                dueRight(y, "place " + k + " twice", slice(k, 13 - k), false);
                dueRight(y, "place " + k + " twice", slice(13 - k, k), false);
                dueRight(y, "place " + k + " twice", slice(13 - k, 13 - k), false);
            }
            for (int k = 1; k <= 6; k++) {
                dueRight(y, "place " + k + " to the one before", slice(k, k - 1), false);
                dueRight(y, "place " + k + " to the beginning", slice(k, 0), false);
                dueRight(y, "the end to the place before", slice(7, 7 + k), false);
            }
        }
    }

    private static void termsNothingAtAll() {
        sentence("Terms", "NOTHING AT ALL (which is not the empty text)");
        for (int n = 0; n <= 6; n++) {
            ExampleLearner x = learnt(SIX.substring(0, n), EMPTY);
            for (int atom = 0; atom <= 199; atom++) {
                dueRight(x, n + " letters into the empty text", atom, false);
            }
            dueCounts(x, 0, 0, 0);
            // If nothing at all were the empty text, atoms that give it would make longer programs right.
            dueCounts(learnt(SIX.substring(0, n), "0"), n == 0 ? 1 : n == 1 ? 1 : 5, 0, 0);
        }
        due("can: the empty text from the empty text", new ExampleLearner().can(), false);
        due("ways: the empty text from six letters", type(new ExampleLearner(), SIX, EMPTY).ways(), 0);
    }

    private static void termsProgramsOfOneToThree() {
        sentence("Terms", "A PROGRAM is a list of one to three atoms");
        dueCounts(learnt(EMPTY, EMPTY), 0, 0, 0);
        dueCounts(learnt(EMPTY, "1"), 1, 0, 0);
        dueCounts(learnt(EMPTY, "12"), 0, 1, 0);
        dueCounts(learnt(EMPTY, "123"), 0, 0, 1);
        dueCounts(learnt(EMPTY, "1230"), 0, 0, 0);
        due("no program has none", learnt(EMPTY, EMPTY).least(), NONE);
        due("one has three", learnt(EMPTY, "123").least(), 3);
        due("none has four", learnt(EMPTY, "1230").least(), NONE);
    }

    private static void termsEachGivesSomething() {
        sentence("Terms", "turns an input text into what its atoms give, if each gives something");
        // The first right programs: slice 3 3, 3 slice 3, 3 3 slice, and the slice asks for three letters.
        ExampleLearner[] learners = {learnt("012", "01233"), learnt("012", "30123"), learnt("012", "33012")};
        String[] results = {"21033", "32103", "33210"};
        for (int i = 0; i < 3; i++) {
            due("a slice and two letters", learners[i].least(), 3);
            dueNoResult(type(learners[i], "21", EMPTY));
            dueResult(type(learners[i], "210", EMPTY), results[i]);
            due("can: what the others give alone", type(learners[i], "21", "33").can(), false);
        }
        dueCounts(learnt("0", "00", EMPTY, "00"), 0, 1, 0);
    }

    private static void termsUpToTwoExamples() {
        sentence("Terms", "There are up to two EXAMPLES");
        ExampleLearner x = new ExampleLearner();
        due("the first", x.learn(), 1);
        due("the second", x.learn(), 2);
        due("a third", x.learn(), FULL);
        due("a fourth", x.learn(), FULL);
    }

    private static void termsNoExamples() {
        sentence("Terms", "without examples every program is right");
        ExampleLearner forgotten = hopeless();
        due("forget", forgotten.forget(), 0);
        ExampleLearner full = type(new ExampleLearner(), SIX, SIX);
        ExampleLearner[] learners = {new ExampleLearner(), full, forgotten};
        for (ExampleLearner x : learners) {
            due("least", x.least(), 1);
            dueCounts(x, 200, 40000, 8000000);
            for (int atom = 0; atom <= 199; atom++) {
                dueRight(x, "no examples", atom, true);
            }
            dueAtoms(x, 0);
        }
    }

    private static void termsTwoExamples() {
        sentence("Terms", "right if it turns each example's input into its output");
        dueCounts(learnt("01", "1"), 5, 0, 0);
        dueCounts(learnt("210", "0"), 5, 0, 0);
        dueCounts(learnt("01", "1", "210", "0"), 1, 0, 0);
        dueCounts(learnt("210", "0", "01", "1"), 1, 0, 0);
        // The first alone, the second alone and both unmet; the same input with two outputs; the same twice.
        dueCounts(learnt("01", EMPTY, "01", "1"), 0, 0, 0);
        dueCounts(learnt("01", "1", "01", EMPTY), 0, 0, 0);
        dueCounts(learnt(EMPTY, "0123", EMPTY, "0123"), 0, 0, 0);
        dueCounts(learnt("01", "0", "01", "1"), 0, 0, 0);
        dueCounts(learnt("01", "1", "01", "1"), 5, 0, 0);
        due("two letters are right for both", learnt("0", "01", "1", "01").atom(0), 0);
        due("a slice is right for both", learnt("0", "00", "1", "11").atom(0), slice(0, 1));
    }

    private static void termsOrderFewerAtoms() {
        sentence("Terms", "PROGRAMS ARE ORDERED: fewer atoms first");
        dueAtoms(learnt("01", "01"), slice(0, 2));
        dueAtoms(learnt(SIX, SIX), slice(0, 6));
        dueAtoms(learnt("0123", "2301"), slice(2, 4), slice(0, 2));
    }

    private static void termsOrderFirstAtoms() {
        sentence("Terms", "PROGRAMS ARE ORDERED: then by their first atoms");
        // Also 0101 and 01, with the smaller atom behind.
        dueAtoms(learnt("0101", "010101"), slice(0, 2), slice(0, 4));
        dueAtoms(learnt("010", "0"), 0);
    }

    private static void termsOrderSecondAtoms() {
        sentence("Terms", "PROGRAMS ARE ORDERED: then second");
        // Also 3, 010 and 10, and 3, 0101 and 0, with smaller atoms behind.
        dueAtoms(learnt("0101", "301010"), 3, slice(0, 2), slice(0, 3));
        dueAtoms(learnt("0101", "00101"), 0, slice(0, 4));
    }

    private static void termsOrderThirdAtoms() {
        sentence("Terms", "PROGRAMS ARE ORDERED: then third");
        dueAtoms(learnt("012", "301212"), 3, slice(0, 3), slice(1, 3));
        dueAtoms(learnt("0", "000"), 0, 0, 0);
    }

    private static void termsOrderSmallerNumbers() {
        sentence("Terms", "PROGRAMS ARE ORDERED: smaller numbers first");
        dueAtoms(learnt("3", "3"), 3);
        dueAtoms(learnt("0123", "123"), slice(1, 4));
        dueAtoms(learnt("0123", "123", "01230", "1230"), slice(1, 7));
        dueAtoms(learnt("0123", "012", "01230", "0123"), slice(0, 8));
    }

    private static void termsTwoTexts() {
        sentence("Terms", "Two texts are being typed: IN and OUT");
        ExampleLearner x = copier();
        typeIn(x, SIX);
        due("OUT is empty while IN is full", x.typeOut(1), 1);
        due("IN is full", x.typeIn(1), FULL);
        ExampleLearner y = copier();
        typeOut(y, SIX);
        due("IN is empty while OUT is full", y.typeIn(1), 1);
        due("OUT is full", y.typeOut(1), FULL);
        dueResult(y, "1");
    }

    // ---- Ahead of the calls

    private static void aheadTestsInOrder() {
        sentence("Ahead of typeIn to forget", "Tests are made in the order in which they are named");
        ExampleLearner x = type(copier(), SIX, SIX);
        for (int letter : new int[] {-1, 4, 5, Integer.MIN_VALUE, Integer.MAX_VALUE}) {
            due("typeIn(" + letter + ") with six", x.typeIn(letter), BAD_LETTER);
            due("typeOut(" + letter + ") with six", x.typeOut(letter), BAD_LETTER);
        }
        due("typeIn(0) with six", x.typeIn(0), FULL);
        due("typeOut(0) with six", x.typeOut(0), FULL);
        dueCopierWith(x, SIX);
    }

    private static void aheadRefusedChangesNothing() {
        sentence("Ahead of typeIn to forget", "a refused call changes nothing");
        for (String text : new String[] {EMPTY, "2", "23", "30211", SIX}) {
            ExampleLearner x = type(copier(), text, text);
            for (int letter : new int[] {-1, 4}) {
                due("typeIn(" + letter + ")", x.typeIn(letter), BAD_LETTER);
                dueCopierWith(x, text);
                due("typeOut(" + letter + ")", x.typeOut(letter), BAD_LETTER);
                dueCopierWith(x, text);
            }
            due("learn", x.learn(), FULL);
            dueCopierWith(x, text);
        }
        ExampleLearner full = type(copier(), SIX, SIX);
        for (int letter = 0; letter <= 3; letter++) {
            due("typeIn(" + letter + ") with six", full.typeIn(letter), FULL);
            dueCopierWith(full, SIX);
            due("typeOut(" + letter + ") with six", full.typeOut(letter), FULL);
            dueCopierWith(full, SIX);
        }
        ExampleLearner none = type(new ExampleLearner(), "30211", "30211");
        due("forget with none", none.forget(), NONE);
        due("every program is right still", none.programs(1), 200);
        due("IN and OUT are as they were", none.ways(), 4);
        due("typeIn", none.typeIn(3), 6);
        due("typeOut", none.typeOut(3), 6);
        due("learn", none.learn(), 1);
        due("what was typed is learnt", none.programs(1), 4);
    }

    private static void aheadAskingChangesNothing() {
        sentence("Ahead of least to right", "The calls below change nothing");
        ExampleLearner x = type(copier(), SIX, SIX);
        for (int number : new int[] {Integer.MIN_VALUE, -1, 0, 1, 2, 3, 4, 17, 18, 199, 200, Integer.MAX_VALUE}) {
            x.programs(number);
            x.atom(number);
            x.result(number);
            x.right(number);
            x.least();
            x.can();
            x.ways();
            x.resultLength();
            dueCopierWith(x, SIX);
        }
        due("forget", x.forget(), 1);
        due("the first example is left", x.programs(1), 4);
    }

    private static void aheadOneQuestionChangesNothing() {
        sentence("Ahead of least to right", "The calls below change nothing, each alone");
        for (int question = 0; question < 8; question++) {
            // None, one that no program is right for, and two examples.
            ExampleLearner[] learners = {new ExampleLearner(), hopeless(), copier()};
            for (int examples = 0; examples <= 2; examples++) {
                ExampleLearner x = type(learners[examples], "30211", "30211");
                ask(x, question);
                due("question " + question + ", typeIn", x.typeIn(3), 6);
                due("question " + question + ", typeOut", x.typeOut(3), 6);
                ask(x, question);
                for (int left = examples - 1; left >= 0; left--) {
                    due("question " + question + ", forget", x.forget(), left);
                }
                due("question " + question + ", forget", x.forget(), NONE);
                due("question " + question + ", IN is OUT: ways", x.ways(), 4);
            }
        }
    }

    private static void ask(ExampleLearner x, int question) {
        switch (question) {
            case 0: x.least(); break;
            case 1: x.programs(1); break;
            case 2: x.atom(0); break;
            case 3: x.can(); break;
            case 4: x.ways(); break;
            case 5: x.resultLength(); break;
            case 6: x.result(0); break;
            default: x.right(0); break;
        }
    }

    // ---- Promise 1

    private static void promise1NoExamples() {
        sentence("Promise 1", "No examples");
        due("forget", new ExampleLearner().forget(), NONE);
        due("learn", new ExampleLearner().learn(), 1);
        ExampleLearner x = new ExampleLearner();
        due("least", x.least(), 1);
        dueCounts(x, 200, 40000, 8000000);
        dueAtoms(x, 0);
        dueResult(x, "0");
    }

    private static void promise1BothEmpty() {
        sentence("Promise 1", "IN and OUT are empty");
        due("typeIn", new ExampleLearner().typeIn(0), 1);
        due("typeOut", new ExampleLearner().typeOut(0), 1);
        ExampleLearner x = new ExampleLearner();
        due("can", x.can(), false);
        due("ways", x.ways(), 0);
        due("typeOut(0)", x.typeOut(0), 1);
        due("the letter alone gives OUT, no slice of IN", x.ways(), 1);
        ExampleLearner y = new ExampleLearner();
        due("learn", y.learn(), 1);
        due("the example of empty texts is never met", y.least(), NONE);
        ExampleLearner other = type(copier(), SIX, SIX);
        due("typeIn of a new object beside another", new ExampleLearner().typeIn(0), 1);
        due("forget of a new object beside another", new ExampleLearner().forget(), NONE);
        dueCopierWith(other, SIX);
    }

    // ---- Promise 2

    private static void promise2BadLetter() {
        sentence("Promise 2", "letter not in 0 to 3: BAD_LETTER");
        ExampleLearner x = copier();
        for (int length = 0; length <= 6; length++) {
            due("typeIn(-1)", x.typeIn(-1), BAD_LETTER);
            due("typeIn(4)", x.typeIn(4), BAD_LETTER);
            for (int letter : FAR) {
                due("typeIn(" + letter + ")", x.typeIn(letter), BAD_LETTER);
            }
            dueResult(x, SIX.substring(0, length));
            if (length < 6) {
                due("typeIn", x.typeIn(SIX.charAt(length) - '0'), length + 1);
            }
        }
    }

    private static void promise2Full() {
        sentence("Promise 2", "it has six: FULL");
        ExampleLearner x = copier();
        typeIn(x, SIX);
        for (int letter = 0; letter <= 3; letter++) {
            due("typeIn(" + letter + ")", x.typeIn(letter), FULL);
            dueResult(x, SIX);
        }
        due("OUT has none", x.typeOut(0), 1);
        ExampleLearner y = type(new ExampleLearner(), "30211", EMPTY);
        due("learn", y.learn(), 1);
        due("the sixth", y.typeIn(3), 6);
        due("the seventh with one example", y.typeIn(3), FULL);
        due("learn", y.learn(), 2);
        due("the seventh with two examples", y.typeIn(3), FULL);
        due("forget", y.forget(), 1);
        due("forget", y.forget(), 0);
        due("the seventh with none", y.typeIn(3), FULL);
    }

    private static void promise2Length() {
        sentence("Promise 2", "Appends a letter to IN. Else answers its length");
        for (int letter = 0; letter <= 3; letter++) {
            ExampleLearner x = type(copier(), EMPTY, SIX);
            for (int length = 1; length <= 6; length++) {
                due("typeIn(" + letter + ")", x.typeIn(letter), length);
                due("resultLength", x.resultLength(), length);
                due("result(" + (length - 1) + ")", x.result(length - 1), letter);
            }
            due("the seventh", x.typeIn(letter), FULL);
            x.erase();
            due("the first after erase", x.typeIn(letter), 1);
        }
    }

    // ---- Promise 3

    private static void promise3BadLetter() {
        sentence("Promise 3", "letter not in 0 to 3: BAD_LETTER");
        ExampleLearner x = type(copier(), SIX, EMPTY);
        for (int length = 0; length <= 6; length++) {
            due("typeOut(-1)", x.typeOut(-1), BAD_LETTER);
            due("typeOut(4)", x.typeOut(4), BAD_LETTER);
            for (int letter : FAR) {
                due("typeOut(" + letter + ")", x.typeOut(letter), BAD_LETTER);
            }
            due("ways with " + length, x.ways(), length == 6 ? 1 : 0);
            if (length < 6) {
                due("typeOut", x.typeOut(SIX.charAt(length) - '0'), length + 1);
            }
        }
    }

    private static void promise3Full() {
        sentence("Promise 3", "it has six: FULL");
        ExampleLearner x = type(copier(), "30211", SIX);
        for (int letter = 0; letter <= 3; letter++) {
            due("typeOut(" + letter + ")", x.typeOut(letter), FULL);
        }
        dueResult(x, "30211");
        due("IN has five", x.typeIn(3), 6);
        due("OUT is as typed", x.ways(), 1);
        ExampleLearner y = type(new ExampleLearner(), EMPTY, "30211");
        due("learn", y.learn(), 1);
        due("the sixth", y.typeOut(3), 6);
        due("the seventh with one example", y.typeOut(3), FULL);
        due("learn", y.learn(), 2);
        due("the seventh with two examples", y.typeOut(3), FULL);
        due("forget", y.forget(), 1);
        due("forget", y.forget(), 0);
        due("the seventh with none", y.typeOut(3), FULL);
    }

    private static void promise3Length() {
        sentence("Promise 3", "Appends a letter to OUT. Else answers its length");
        for (int letter = 0; letter <= 3; letter++) {
            ExampleLearner x = copier();
            for (int length = 1; length <= 6; length++) {
                due("typeIn(" + letter + ")", x.typeIn(letter), length);
                due("OUT has one letter less than IN", x.ways(), 0);
                due("typeOut(" + letter + ")", x.typeOut(letter), length);
                due("OUT is IN", x.ways(), 1);
            }
            due("the seventh", x.typeOut(letter), FULL);
            x.erase();
            due("the first after erase", x.typeOut(letter), 1);
        }
    }

    // ---- Promise 4

    private static void promise4Empty() {
        sentence("Promise 4", "IN and OUT become empty");
        String[] texts = {EMPTY, "3", SIX};
        for (String in : texts) {
            for (String out : texts) {
                ExampleLearner x = type(copier(), in, out);
                x.erase();
                dueNoResult(x);
                due("typeIn(0)", x.typeIn(0), 1);
                due("typeOut(0)", x.typeOut(0), 1);
                dueCopierWith(x, "0");
                x.erase();
                x.erase();
                dueCopierWith(x, EMPTY);
                typeIn(x, SIX);
                typeOut(x, SIX);
                dueCopierWith(x, SIX);
            }
        }
    }

    private static void promise4WithNoneOneAndTwo() {
        sentence("Promise 4", "IN and OUT become empty, with none, one and two examples");
        ExampleLearner none = type(new ExampleLearner(), SIX, SIX);
        none.erase();
        due("typeIn", none.typeIn(3), 1);
        due("typeOut", none.typeOut(3), 1);
        due("ways: the letter and four slices", none.ways(), 5);
        due("there are none", none.forget(), NONE);
        ExampleLearner one = type(learnt("01", "1"), SIX, SIX);
        one.erase();
        due("the example stays", one.programs(1), 5);
        due("there is one", one.forget(), 0);
        due("there is no more", one.forget(), NONE);
        ExampleLearner two = type(learnt("01", "1", "210", "0"), SIX, SIX);
        two.erase();
        due("the examples stay", two.programs(1), 1);
        due("there are two", two.forget(), 1);
        due("the first is left", two.programs(1), 5);
    }

    // ---- Promise 5

    private static void promise5BecomeAnExample() {
        sentence("Promise 5", "IN and OUT become an example");
        dueCounts(learnt(EMPTY, EMPTY), 0, 0, 0);
        dueCounts(learnt(SIX, EMPTY), 0, 0, 0);
        dueCounts(learnt(EMPTY, "3"), 1, 0, 0);
        dueCounts(learnt("3", "3"), 5, 0, 0);
        dueAtoms(learnt("333333", "333333"), slice(0, 6));
        dueAtoms(learnt(SIX, SIX), slice(0, 6));
        dueAtoms(learnt(SIX, SIX, "333333", "333333"), slice(0, 6));
    }

    private static void promise5Stay() {
        sentence("Promise 5", "(and stay as they are)");
        for (int length = 0; length <= 6; length++) {
            String text = SIX.substring(0, length);
            int ways = length == 0 ? 0 : length == 1 ? 5 : 4;
            ExampleLearner x = new ExampleLearner();
            typeIn(x, text);
            typeOut(x, text);
            due("learn", x.learn(), 1);
            due("ways with " + text, x.ways(), ways);
            due("learn", x.learn(), 2);
            due("ways with " + text, x.ways(), ways);
            due("typeIn", x.typeIn(0), length == 6 ? FULL : length + 1);
            due("typeOut", x.typeOut(0), length == 6 ? FULL : length + 1);
            due("what is typed later is in no example", x.programs(1), ways);
        }
    }

    private static void promise5Full() {
        sentence("Promise 5", "There are two examples: FULL");
        ExampleLearner x = type(copier(), SIX, "30");
        for (int i = 0; i < 3; i++) {
            due("learn", x.learn(), FULL);
            // The first two letters are right for the first example and for IN and OUT, but not for the second.
            dueAtoms(x, slice(0, 7));
            due("ways", x.ways(), 0);
            dueResult(x, SIX);
        }
        due("forget", x.forget(), 1);
        due("the first example is left", x.programs(1), 4);
        due("the first two letters", x.ways(), 1);
        due("there is room again", x.learn(), 2);
        due("and none again", x.learn(), FULL);
    }

    private static void promise5HowMany() {
        sentence("Promise 5", "Else answers how many there are");
        ExampleLearner x = new ExampleLearner();
        for (int i = 0; i < 3; i++) {
            due("learn", x.learn(), 1);
            due("learn", x.learn(), 2);
            due("learn", x.learn(), FULL);
            due("forget", x.forget(), 1);
            due("learn", x.learn(), 2);
            due("forget", x.forget(), 1);
            due("forget", x.forget(), 0);
        }
    }

    // ---- Promise 6

    private static void promise6TakesTheLast() {
        sentence("Promise 6", "Takes the last example away");
        ExampleLearner x = type(learnt("01", "1", "210", "0"), SIX, "3");
        due("both", x.programs(1), 1);
        due("forget", x.forget(), 1);
        dueRight(x, "the first is left", 1, true);
        dueRight(x, "the last is away", 0, false);
        due("the first is left", x.programs(1), 5);
        due("IN stays", x.typeIn(0), FULL);
        due("OUT stays", x.typeOut(0), 2);
        due("another in its place", x.learn(), 2);
        due("both, and no one atom", x.programs(1), 0);
        due("forget", x.forget(), 1);
        due("the first is left again", x.programs(1), 5);
        due("forget", x.forget(), 0);
        due("no example", x.programs(1), 200);
        due("IN stays", x.typeIn(0), FULL);
        due("OUT stays", x.typeOut(0), 3);
    }

    private static void promise6None() {
        sentence("Promise 6", "There is none: NONE");
        ExampleLearner x = type(new ExampleLearner(), "12", "12");
        for (int i = 0; i < 3; i++) {
            due("forget", x.forget(), NONE);
            dueCounts(x, 200, 40000, 8000000);
            due("ways", x.ways(), 4);
        }
        due("typeIn", x.typeIn(3), 3);
        due("typeOut", x.typeOut(3), 3);
        due("ways", x.ways(), 4);
        due("the first is learnt after it", x.learn(), 1);
    }

    private static void promise6HowMany() {
        sentence("Promise 6", "Else answers how many are left");
        ExampleLearner x = learnt("01", "1", "210", "0");
        due("forget", x.forget(), 1);
        due("forget", x.forget(), 0);
        due("forget", x.forget(), NONE);
        ExampleLearner y = learnt("01", "1");
        due("forget", y.forget(), 0);
        due("forget", y.forget(), NONE);
    }

    // ---- Promise 7

    private static void promise7Least() {
        sentence("Promise 7", "The least count");
        due("none", new ExampleLearner().least(), 1);
        due("one letter", learnt(EMPTY, "0").least(), 1);
        due("two letters", learnt(EMPTY, "01").least(), 2);
        due("three letters", learnt(EMPTY, "012").least(), 3);
        due("six from six", learnt(SIX, SIX).least(), 1);
        due("six from three", learnt("012", "012012").least(), 2);
        due("six from two", learnt("01", "010101").least(), 3);
        due("one for the first", learnt("01", "01").least(), 1);
        due("two for both", learnt("01", "01", "10", "01").least(), 2);
        due("two for the first", learnt("01", "012").least(), 2);
        due("two for the second", learnt("12", "012").least(), 2);
        due("three for both", learnt("01", "012", "12", "012").least(), 3);
    }

    private static void promise7None() {
        sentence("Promise 7", "NONE if no program is right");
        due("four letters", learnt(EMPTY, "0123").least(), NONE);
        due("six from one", learnt("0", "000000").least(), NONE);
        due("the empty output", learnt(SIX, EMPTY).least(), NONE);
        due("both empty", learnt(EMPTY, EMPTY).least(), NONE);
        due("only the second unmet", learnt("0", "0", "0", EMPTY).least(), NONE);
        due("only the first unmet", learnt("0", EMPTY, "0", "0").least(), NONE);
        due("both met, not by one program", learnt("01", "0", "01", "1").least(), NONE);
    }

    // ---- Promise 8

    private static void promise8BadCount() {
        sentence("Promise 8", "count not in 1 to 3: BAD_COUNT");
        // Of the last one no program is right, and a bad count is told nevertheless.
        for (ExampleLearner x : new ExampleLearner[] {new ExampleLearner(), copier(), tripler(), hopeless()}) {
            for (int count : new int[] {-3, -2, -1, 0, 4, 5, 6}) {
                due("programs(" + count + ")", x.programs(count), BAD_COUNT);
            }
            for (int count : FAR) {
                due("programs(" + count + ")", x.programs(count), BAD_COUNT);
            }
        }
    }

    private static void promise8HowMany() {
        sentence("Promise 8", "How many right programs have just this many atoms");
        for (int n = 0; n <= 6; n++) {
            for (int m = 0; m <= 6; m++) {
                ExampleLearner one = learnt(zeros(n), zeros(m));
                dueCounts(one, zeroPrograms(1, n, m), zeroPrograms(2, n, m), zeroPrograms(3, n, m));
                ExampleLearner two = learnt(zeros(n), zeros(m), zeros(n), zeros(m));
                dueCounts(two, zeroPrograms(1, n, m), zeroPrograms(2, n, m), zeroPrograms(3, n, m));
            }
        }
        // Two atoms: the first letter, as a letter or a slice, and the others; or the last and the others.
        dueCounts(copier(), 1, 3, 0);
        dueCounts(tripler(), 0, 0, 1);
        dueCounts(hopeless(), 0, 0, 0);
    }

    /** How many lists of so many atoms turn n zeros into m: each place of the input has two positions. */
    private static int zeroPrograms(int atoms, int n, int m) {
        if (atoms == 0) {
            return m == 0 ? 1 : 0;
        }
        int sum = 0;
        for (int length = 1; length <= m; length++) {
            int slices = length <= n ? 4 * (n + 1 - length) : 0;
            sum += (slices + (length == 1 ? 1 : 0)) * zeroPrograms(atoms - 1, n, m - length);
        }
        return sum;
    }

    private static void promise8AtMost() {
        sentence("Promise 8", "(At most 8000000.)");
        dueCounts(new ExampleLearner(), 200, 40000, 8000000);
        dueCounts(type(new ExampleLearner(), SIX, SIX), 200, 40000, 8000000);
    }

    // ---- Promise 9

    private static void promise9AtomI() {
        sentence("Promise 9", "Atom i, from 0, of the first right program");
        dueAtoms(new ExampleLearner(), 0);
        dueAtoms(copier(), slice(0, 7));
        dueAtoms(learnt("0123", "2301"), slice(2, 4), slice(0, 2));
        dueAtoms(tripler(), slice(0, 7), slice(0, 7), slice(0, 7));
        dueAtoms(learnt(EMPTY, "321"), 3, 2, 1);
        // Five letters before the end stand at different places of the two inputs, so no other atom is right.
        dueAtoms(learnt("01230", "01230", "301230", "01230"), slice(12, 7));
    }

    private static void promise9NoProgram() {
        sentence("Promise 9", "NONE if there is none");
        dueAtoms(hopeless());
        dueAtoms(learnt(EMPTY, EMPTY));
        dueAtoms(learnt(EMPTY, "0123"));
        dueAtoms(learnt("01", "0", "01", "1"));
    }

    private static void promise9NoSuchAtom() {
        sentence("Promise 9", "NONE if it has no such atom");
        ExampleLearner[] learners = {hopeless(), copier(), learnt("0123", "2301"), tripler()};
        for (int length = 0; length <= 3; length++) {
            for (int i = -3; i <= 6; i++) {
                boolean there = i >= 0 && i < length;
                due("of " + length + " atoms, there is one: atom(" + i + ")", learners[length].atom(i) != NONE, there);
            }
            for (int i : FAR) {
                due("of " + length + " atoms, atom(" + i + ")", learners[length].atom(i), NONE);
            }
        }
    }

    // ---- Promise 10

    private static void promise10LeastCount() {
        sentence("Promise 10", "Whether some right program of the least count turns IN into OUT");
        ExampleLearner one = learnt("01", "01");
        due("both empty", one.can(), false);
        due("IN empty", type(one, EMPTY, "01").can(), false);
        due("OUT empty", type(one, "01", EMPTY).can(), false);
        due("the example", type(one, "01", "01").can(), true);
        due("six into six", type(one, SIX, SIX).can(), true);
        due("six into five", type(one, SIX, "30211").can(), false);
        due("five into six", type(one, "30211", SIX).can(), false);
        due("the least is one, two would do", type(one, "3", "01").can(), false);
        ExampleLearner two = learnt(EMPTY, "01");
        due("two letters", type(two, SIX, "01").can(), true);
        due("the least is two, one would do", type(two, SIX, "0").can(), false);
        ExampleLearner three = learnt(EMPTY, "012");
        due("three letters", type(three, SIX, "012").can(), true);
        due("the least is three, two would do", type(three, SIX, "01").can(), false);
    }

    private static void promise10NoneAndTwoExamples() {
        sentence("Promise 10", "Whether some right program does, without examples, with two and where none is right");
        due("no examples, both empty", new ExampleLearner().can(), false);
        due("no examples, one letter", type(new ExampleLearner(), EMPTY, "3").can(), true);
        due("no examples, two letters", type(new ExampleLearner(), EMPTY, "30").can(), false);
        due("no examples, six into six", type(new ExampleLearner(), SIX, SIX).can(), true);
        due("two examples, six into six", type(copier(), SIX, SIX).can(), true);
        due("two examples, the first letters", type(copier(), SIX, "30").can(), false);
        due("none right", hopeless().can(), false);
        due("none right, the example itself", type(hopeless(), "012", EMPTY).can(), false);
        due("none right, what an atom gives", type(hopeless(), "012", "012").can(), false);
    }

    // ---- Promise 11

    private static void promise11LeastCount() {
        sentence("Promise 11", "How many right programs of the least count turn IN into OUT");
        for (int n = 0; n <= 6; n++) {
            for (int m = 0; m <= 6; m++) {
                ExampleLearner none = type(new ExampleLearner(), zeros(n), zeros(m));
                due("no examples, " + n + " zeros into " + m, none.ways(), zeroPrograms(1, n, m));
                ExampleLearner one = type(learnt(zeros(n), zeros(m)), zeros(n), zeros(m));
                due("the example, " + n + " zeros into " + m, one.ways(), leastZeroPrograms(n, m));
                ExampleLearner two = type(learnt(zeros(n), zeros(m), zeros(n), zeros(m)), zeros(n), zeros(m));
                due("both examples, " + n + " zeros into " + m, two.ways(), leastZeroPrograms(n, m));
            }
        }
        due("the least is one, two would do", type(learnt("01", "01"), "3", "01").ways(), 0);
        due("the least is two, one would do", type(learnt(EMPTY, "01"), "01", "0").ways(), 0);
        due("the least is two", type(learnt("0", "00"), "12", "00").ways(), 1);
        due("two examples, six into six", type(copier(), SIX, SIX).ways(), 1);
        due("two examples, both empty", copier().ways(), 0);
    }

    private static int leastZeroPrograms(int n, int m) {
        for (int atoms = 1; atoms <= 3; atoms++) {
            int programs = zeroPrograms(atoms, n, m);
            if (programs > 0) {
                return programs;
            }
        }
        return 0;
    }

    private static void promise11NoneRight() {
        sentence("Promise 11", "0 if no program is right");
        due("both empty", hopeless().ways(), 0);
        due("the example itself", type(hopeless(), "012", EMPTY).ways(), 0);
        due("what an atom gives", type(hopeless(), "012", "012").ways(), 0);
        due("four letters", type(learnt(EMPTY, "0123"), EMPTY, "0123").ways(), 0);
        due("two that differ", type(learnt("01", "0", "01", "1"), "01", "1").ways(), 0);
    }

    // ---- Promise 12

    private static void promise12Length() {
        sentence("Promise 12", "The length of what the first right program turns IN into");
        due("no examples, IN empty", new ExampleLearner().resultLength(), 1);
        due("no examples, IN full", type(new ExampleLearner(), SIX, SIX).resultLength(), 1);
        due("one letter", learnt(EMPTY, "3").resultLength(), 1);
        due("three letters", learnt(EMPTY, "333").resultLength(), 3);
        due("the first, not a later one", type(learnt("0123", "23"), "30211", EMPTY).resultLength(), 2);
    }

    private static void promise12NoProgram() {
        sentence("Promise 12", "NONE if there is no right program");
        due("IN empty", hopeless().resultLength(), NONE);
        due("IN full", type(hopeless(), SIX, SIX).resultLength(), NONE);
        due("four letters", learnt(EMPTY, "0123").resultLength(), NONE);
    }

    private static void promise12NotAnything() {
        sentence("Promise 12", "or it doesn't turn IN into anything");
        due("IN empty", copier().resultLength(), NONE);
        due("IN empty", tripler().resultLength(), NONE);
        ExampleLearner x = type(learnt("0123", "23"), "012", "12");
        due("a later right program does", x.ways(), 1);
        due("the first does not", x.resultLength(), NONE);
        due("one letter too few", type(learnt(SIX, SIX), "30211", EMPTY).resultLength(), NONE);
        due("just enough", type(learnt(SIX, SIX), "000000", EMPTY).resultLength(), 6);
    }

    private static void promise12AtMost() {
        sentence("Promise 12", "(At most 18.)");
        for (int length = 1; length <= 6; length++) {
            ExampleLearner x = type(tripler(), SIX.substring(0, length), EMPTY);
            due("three times " + length, x.resultLength(), 3 * length);
        }
    }

    // ---- Promise 13

    private static void promise13LetterI() {
        sentence("Promise 13", "Letter i, from 0, of what the first right program turns IN into");
        dueResult(type(tripler(), SIX, EMPTY), SIX + SIX + SIX);
        for (int letter = 0; letter <= 3; letter++) {
            String text = zeros(6).replace('0', (char) ('0' + letter));
            dueResult(type(tripler(), text, EMPTY), text + text + text);
            dueResult(learnt(EMPTY, "" + letter), "" + letter);
        }
        dueResult(new ExampleLearner(), "0");
        dueResult(type(new ExampleLearner(), SIX, SIX), "0");
        // A later right program of the least count turns IN into OUT; the first one's text is the result.
        ExampleLearner later = type(learnt("0123", "23"), "01230", "30");
        due("can: a later one does", later.can(), true);
        dueResult(later, "23");
        // A longer result that was asked for before leaves nothing behind.
        ExampleLearner x = type(tripler(), "333333", EMPTY);
        dueResult(x, "333333333333333333");
        dueResult(type(x, "0", EMPTY), "000");
        dueNoResult(type(x, EMPTY, EMPTY));
    }

    private static void promise13NoLetter() {
        sentence("Promise 13", "NONE if there is none, outside of the result");
        ExampleLearner eighteen = type(tripler(), SIX, EMPTY);
        for (int i : new int[] {-18, -6, -2, -1, 18, 19, 20, 24, 32, 33, 64, 128}) {
            due("result(" + i + ") of eighteen", eighteen.result(i), NONE);
        }
        due("result(0) of eighteen", eighteen.result(0), 3);
        due("result(17) of eighteen", eighteen.result(17), 3);
        ExampleLearner one = learnt(EMPTY, "3");
        due("result(-1) of one", one.result(-1), NONE);
        due("result(0) of one", one.result(0), 3);
        for (int i = 1; i <= 18; i++) {
            due("result(" + i + ") of one", one.result(i), NONE);
        }
        for (int i : FAR) {
            due("result(" + i + ") of eighteen", eighteen.result(i), NONE);
            due("result(" + i + ") of one", one.result(i), NONE);
        }
    }

    private static void promise13NoResult() {
        sentence("Promise 13", "NONE if there is none, without a result");
        dueNoResult(hopeless());
        dueNoResult(type(hopeless(), SIX, SIX));
        dueNoResult(copier());
        dueNoResult(tripler());
        dueNoResult(type(learnt("0123", "23"), "012", "12"));
    }

    // ---- Promise 14

    private static void promise14Right() {
        sentence("Promise 14", "Whether this one atom, as a program, is right");
        dueRight(new ExampleLearner(), "no examples", 0, true);
        dueRight(new ExampleLearner(), "no examples", 199, true);
        dueRight(learnt(EMPTY, "0"), "the smallest atom", 0, true);
        dueRight(learnt(EMPTY, "0"), "another letter", 1, false);
        dueRight(learnt(EMPTY, "3"), "the greatest letter", 3, true);
        dueRight(learnt("3", "3"), "the first slice, which gives nothing", 4, false);
        dueRight(learnt("3", "3"), "the second slice", 5, true);
        dueRight(learnt(SIX, "3"), "the last slice that gives something", 198, true);
        dueRight(learnt(SIX, "3"), "the last slice", 199, false);
        dueRight(learnt("0", "00"), "only a part", 0, false);
        dueRight(learnt("00", "0"), "more than all", slice(0, 2), false);
        dueRight(learnt("01", "1", "210", "0"), "right for both", slice(8, 7), true);
        dueRight(learnt("01", "1", "210", "0"), "right for the first", slice(1, 2), false);
        dueRight(learnt("01", "1", "210", "0"), "right for the second", 0, false);
        ExampleLearner one = copier();
        ExampleLearner none = hopeless();
        for (int atom = 0; atom <= 199; atom++) {
            dueRight(one, "one is right", atom, atom == slice(0, 7));
            dueRight(none, "none is right", atom, false);
        }
    }

    private static void promise14Outside() {
        sentence("Promise 14", "false if it is not in 0 to 199");
        ExampleLearner[] learners = {new ExampleLearner(), learnt("0", "0"), copier(), hopeless()};
        for (ExampleLearner x : learners) {
            for (int atom : new int[] {-4, -3, -2, -1, 200, 201, 202, 203, 204, 213, 214}) {
                dueRight(x, "outside", atom, false);
            }
            for (int atom : FAR) {
                dueRight(x, "outside", atom, false);
            }
        }
    }
}
