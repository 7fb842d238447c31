/** The document's promises one by one: ordinary inputs, the edges it names, and wrong inputs. */
public final class ExampleLearnerPromises {
    private static final int[] EXTREMES = {Integer.MIN_VALUE, Integer.MAX_VALUE};

    private static int wrong = 0;

    public static void main(String[] args) {
        constants();
        promise1NewObject();
        promise2TypeIn();
        promise3TypeOut();
        promise4Erase();
        promise5Learn();
        promise6Forget();
        promise7Least();
        promise8Programs();
        promise9Atom();
        promise10Can();
        promise11Ways();
        promise12ResultLength();
        promise13Result();
        promise14Right();
        positions();
        queriesChangeNothing();
        System.out.println(wrong == 0 ? "all promises hold" : wrong + " answers are not as due");
        if (wrong != 0) {
            System.exit(1);
        }
    }

    private static void due(String call, int got, int want) {
        if (got != want) {
            wrong++;
            System.out.println(call + " answered " + got + ", due is " + want);
        }
    }

    private static void due(String call, boolean got, boolean want) {
        due(call, got ? 1 : 0, want ? 1 : 0);
    }

    private static void type(ExampleLearner x, String in, String out) {
        x.erase();
        for (int i = 0; i < in.length(); i++) {
            due("typeIn of " + in, x.typeIn(in.charAt(i) - '0'), i + 1);
        }
        for (int i = 0; i < out.length(); i++) {
            due("typeOut of " + out, x.typeOut(out.charAt(i) - '0'), i + 1);
        }
    }

    /** An object that has learnt examples, given as input, output, input, output; IN and OUT are empty. */
    private static ExampleLearner learnt(String... texts) {
        ExampleLearner x = new ExampleLearner();
        for (int i = 0; i < texts.length; i += 2) {
            type(x, texts[i], texts[i + 1]);
            due("learn", x.learn(), i / 2 + 1);
        }
        x.erase();
        return x;
    }

    private static int slice(int p, int q) {
        return 4 + 14 * p + q;
    }

    private static void dueResult(String what, ExampleLearner x, String want) {
        due("resultLength " + what, x.resultLength(), want.length());
        for (int i = 0; i < want.length(); i++) {
            due("result(" + i + ") " + what, x.result(i), want.charAt(i) - '0');
        }
        due("result behind the end " + what, x.result(want.length()), ExampleLearner.NONE);
    }

    private static void dueNoResult(String what, ExampleLearner x) {
        due("resultLength " + what, x.resultLength(), ExampleLearner.NONE);
        for (int i = -1; i <= 18; i++) {
            due("result(" + i + ") " + what, x.result(i), ExampleLearner.NONE);
        }
    }

    private static void constants() {
        due("BAD_LETTER", ExampleLearner.BAD_LETTER, -1);
        due("FULL", ExampleLearner.FULL, -2);
        due("NONE", ExampleLearner.NONE, -3);
        due("BAD_COUNT", ExampleLearner.BAD_COUNT, -4);
    }

    private static void promise1NewObject() {
        due("1: no example to forget", new ExampleLearner().forget(), ExampleLearner.NONE);
        due("1: the first example", new ExampleLearner().learn(), 1);
        due("1: IN is empty", new ExampleLearner().typeIn(3), 1);
        due("1: OUT is empty", new ExampleLearner().typeOut(3), 1);
        due("1: every program is right", new ExampleLearner().programs(1), 200);
        ExampleLearner one = learnt("01", "10");
        due("1: objects share nothing", new ExampleLearner().forget(), ExampleLearner.NONE);
        due("1: the other one keeps its example", one.forget(), 0);
    }

    private static void promise2TypeIn() {
        // Its first right program gives a text of six letters back.
        ExampleLearner x = learnt("012301", "012301");
        int[] letters = {3, 0, 2, 1, 1, 3};
        for (int i = 0; i < 6; i++) {
            refuseLetters(x, true);
            due("2: typeIn", x.typeIn(letters[i]), i + 1);
        }
        refuseLetters(x, true);
        for (int letter = 0; letter < 4; letter++) {
            due("2: a seventh letter", x.typeIn(letter), ExampleLearner.FULL);
        }
        dueResult("2: IN as typed", x, "302113");
        due("2: OUT is as before", x.typeOut(0), 1);
    }

    private static void promise3TypeOut() {
        ExampleLearner x = new ExampleLearner();
        int[] letters = {3, 0, 2, 1, 1, 3};
        for (int i = 0; i < 6; i++) {
            refuseLetters(x, false);
            due("3: typeOut", x.typeOut(letters[i]), i + 1);
        }
        refuseLetters(x, false);
        for (int letter = 0; letter < 4; letter++) {
            due("3: a seventh letter", x.typeOut(letter), ExampleLearner.FULL);
        }
        for (int i = 0; i < 6; i++) {
            due("3: IN is as before", x.typeIn(letters[i]), i + 1);
        }
        // Six letters of IN, each whole slice of it gives OUT: 0 or 13 to 6 or 7.
        due("3: OUT as typed", x.ways(), 4);
        due("3: learnt as typed", x.learn(), 1);
        due("3: the program for it", x.atom(0), slice(0, 6));
    }

    private static void refuseLetters(ExampleLearner x, boolean in) {
        int[] bad = {-1, 4, -4, 5, 256, EXTREMES[0], EXTREMES[1]};
        for (int letter : bad) {
            int got = in ? x.typeIn(letter) : x.typeOut(letter);
            due("bad letter " + letter, got, ExampleLearner.BAD_LETTER);
        }
    }

    private static void promise4Erase() {
        ExampleLearner x = learnt("0", "0", "1", "1");
        due("4: before", x.programs(1), 4);
        type(x, "012301", "321032");
        x.erase();
        due("4: IN is empty", x.typeIn(2), 1);
        due("4: OUT is empty", x.typeOut(2), 1);
        dueResult("4: nothing of the old IN is left", x, "2");
        due("4: nothing of the old OUT is left", x.ways(), 4);
        due("4: the examples stay", x.programs(1), 4);
        due("4: there are still two", x.learn(), ExampleLearner.FULL);
        x.erase();
        x.erase();
        due("4: erased again, IN is empty", x.typeIn(0), 1);
        due("4: erased again, OUT is empty", x.typeOut(0), 1);
        due("4: the second example is left", x.forget(), 1);
        due("4: the first example is left", x.programs(1), 5);
    }

    private static void promise5Learn() {
        ExampleLearner x = new ExampleLearner();
        type(x, "01", "1");
        due("5: one", x.learn(), 1);
        due("5: IN and OUT stay", x.ways(), 5);
        due("5: IN goes on", x.typeIn(2), 3);
        due("5: OUT goes on", x.typeOut(2), 2);
        due("5: the example stays what it was", x.programs(1), 5);
        due("5: two", x.learn(), 2);
        due("5: both examples count", x.programs(1), 1);
        due("5: the first for both", x.atom(0), slice(1, 7));
        for (int i = 0; i < 3; i++) {
            due("5: a third", x.learn(), ExampleLearner.FULL);
        }
        due("5: a refused call changes no example", x.programs(1), 1);
        due("5: nor IN", x.typeIn(0), 4);
        due("5: nor OUT", x.typeOut(0), 3);
        due("5: IN and OUT are the same texts", x.ways(), 1);
        due("5: empty texts are learnt", learnt("", "", "", "").least(), ExampleLearner.NONE);
        due("5: the same example twice", learnt("0", "0", "0", "0").programs(1), 5);
    }

    private static void promise6Forget() {
        ExampleLearner x = learnt("01", "1", "012", "12");
        type(x, "31", "1");
        due("6: the last is taken", x.forget(), 1);
        due("6: the first is left", x.programs(1), 5);
        due("6: IN and OUT stay", x.ways(), 5);
        due("6: none are left", x.forget(), 0);
        due("6: every program is right again", x.programs(2), 40000);
        due("6: IN and OUT still stay", x.ways(), 5);
        due("6: there is none", x.forget(), ExampleLearner.NONE);
        due("6: there is still none", x.forget(), ExampleLearner.NONE);
        due("6: a refused call changes nothing", x.ways(), 5);
        due("6: IN goes on", x.typeIn(0), 3);
        due("6: OUT goes on", x.typeOut(0), 2);
        due("6: learning begins again", x.learn(), 1);
    }

    private static void promise7Least() {
        due("7: without examples", new ExampleLearner().least(), 1);
        due("7: one letter", learnt("", "0").least(), 1);
        due("7: two letters", learnt("", "01").least(), 2);
        due("7: three letters", learnt("", "012").least(), 3);
        due("7: four letters", learnt("", "0123").least(), ExampleLearner.NONE);
        due("7: no program gives the empty text", learnt("012", "").least(), ExampleLearner.NONE);
        due("7: the whole", learnt("012301", "012301").least(), 1);
        due("7: turned round", learnt("0123", "2301").least(), 2);
        due("7: two that differ", learnt("01", "0", "01", "1").least(), ExampleLearner.NONE);
        due("7: the second asks for more", learnt("01", "01", "10", "01").least(), 2);
        due("7: the second can't be met", learnt("01", "01", "01", "").least(), ExampleLearner.NONE);
    }

    private static void promise8Programs() {
        ExampleLearner x = new ExampleLearner();
        int[] bad = {0, 4, -1, 5, EXTREMES[0], EXTREMES[1]};
        for (int count : bad) {
            due("8: programs(" + count + ")", x.programs(count), ExampleLearner.BAD_COUNT);
        }
        dueCounts("without examples", x, 200, 40000, 8000000);
        dueCounts("one letter", learnt("0", "0"), 5, 0, 0);
        dueCounts("two letters", learnt("0", "00"), 0, 25, 0);
        dueCounts("three letters", learnt("0", "000"), 0, 0, 125);
        dueCounts("four letters", learnt("0", "0000"), 0, 0, 0);
        dueCounts("more than the least", learnt("01", "01"), 4, 25, 0);
        dueCounts("the empty input", learnt("", "012"), 0, 0, 1);
        dueCounts("the empty output", learnt("0", ""), 0, 0, 0);
        dueCounts("two examples", learnt("0", "00", "1", "11"), 0, 16, 0);
        due("8: bad with no right program", learnt("", "").programs(4), ExampleLearner.BAD_COUNT);
    }

    private static void dueCounts(String what, ExampleLearner x, int one, int two, int three) {
        due("8: programs(1) " + what, x.programs(1), one);
        due("8: programs(2) " + what, x.programs(2), two);
        due("8: programs(3) " + what, x.programs(3), three);
    }

    private static void promise9Atom() {
        dueAtoms("without examples", new ExampleLearner(), 0);
        dueAtoms("letters", learnt("", "310"), 3, 1, 0);
        dueAtoms("letters before slices", learnt("3", "3"), 3);
        dueAtoms("fewer atoms before smaller ones", learnt("01", "01"), slice(0, 2));
        dueAtoms("the smallest first atom", learnt("012", "0120"), slice(0, 3), 0);
        dueAtoms("then the smallest second", learnt("010", "01001"), slice(0, 3), slice(0, 2));
        dueAtoms("then the smallest third", learnt("012", "301201"), 3, slice(0, 3), slice(0, 2));
        dueAtoms("from the end", learnt("01", "1", "230", "0"), slice(8, 7));
        dueAtoms("none", learnt("", "0123"));
    }

    private static void dueAtoms(String what, ExampleLearner x, int... atoms) {
        for (int i = -2; i < 6; i++) {
            int want = i >= 0 && i < atoms.length ? atoms[i] : ExampleLearner.NONE;
            due("9: atom(" + i + ") " + what, x.atom(i), want);
        }
        for (int i : EXTREMES) {
            due("9: atom(" + i + ") " + what, x.atom(i), ExampleLearner.NONE);
        }
    }

    private static void promise10Can() {
        due("10: nothing gives the empty text", new ExampleLearner().can(), false);
        ExampleLearner x = learnt("01", "01");
        due("10: IN and OUT empty", x.can(), false);
        dueCan("the example itself", x, "01", "01", true);
        dueCan("the whole", x, "321", "321", true);
        dueCan("the first two", x, "321", "32", true);
        dueCan("the last two", x, "321", "21", true);
        dueCan("OUT goes further", x, "32", "321", false);
        dueCan("only with more atoms than the least", x, "", "01", false);
        dueCan("no right program", learnt("", ""), "", "", false);
        dueCan("without examples one atom is the least", new ExampleLearner(), "", "01", false);
        dueCan("without examples", new ExampleLearner(), "", "3", true);
    }

    private static void dueCan(String what, ExampleLearner x, String in, String out, boolean want) {
        type(x, in, out);
        due("10: can " + what, x.can(), want);
    }

    private static void promise11Ways() {
        due("11: nothing gives the empty text", new ExampleLearner().ways(), 0);
        ExampleLearner x = learnt("01", "01");
        due("11: IN and OUT empty", x.ways(), 0);
        dueWays("the example itself", x, "01", "01", 4);
        dueWays("the whole", x, "321", "321", 1);
        dueWays("the first two", x, "321", "32", 1);
        dueWays("the last two", x, "321", "21", 1);
        dueWays("from the last but one to the second", x, "321", "2", 1);
        dueWays("the last", x, "321", "1", 0);
        dueWays("only with more atoms than the least", x, "", "01", 0);
        dueWays("no right program", learnt("", ""), "", "", 0);
        dueWays("no right program, but one for IN and OUT", learnt("", ""), "0", "0", 0);
        dueWays("three atoms", learnt("0", "000"), "1", "111", 64);
        dueWays("two examples", learnt("0", "00", "1", "11"), "2", "22", 16);
        dueWays("with two examples", learnt("01", "01", "012", "012"), "3333", "3333", 1);
        dueWays("without examples", new ExampleLearner(), "0", "0", 5);
        dueWays("without examples one atom is the least", new ExampleLearner(), "", "01", 0);
    }

    private static void dueWays(String what, ExampleLearner x, String in, String out, int want) {
        type(x, in, out);
        due("11: ways " + what, x.ways(), want);
    }

    /** Its one right program puts three whole inputs behind one another. */
    private static ExampleLearner thrice() {
        ExampleLearner x = learnt("01", "010101", "3", "333");
        due("the programs that give the input thrice", x.programs(3), 1);
        return x;
    }

    private static void promise12ResultLength() {
        due("12: without examples", new ExampleLearner().resultLength(), 1);
        ExampleLearner x = thrice();
        due("12: no slice gives the empty text", x.resultLength(), ExampleLearner.NONE);
        for (int length = 1; length <= 6; length++) {
            x.typeIn(length % 4);
            due("12: thrice " + length + " letters", x.resultLength(), 3 * length);
        }
        due("12: no right program", learnt("", "").resultLength(), ExampleLearner.NONE);
        ExampleLearner letters = learnt("", "012");
        due("12: letters need no input", letters.resultLength(), 3);
        ExampleLearner second = learnt("012", "0120");
        due("12: the first atom gives nothing", second.resultLength(), ExampleLearner.NONE);
        ExampleLearner later = learnt("012", "3012");
        due("12: the second atom gives nothing", later.resultLength(), ExampleLearner.NONE);
    }

    private static void promise13Result() {
        dueResult("13: without examples", new ExampleLearner(), "0");
        ExampleLearner x = thrice();
        dueNoResult("13: IN is empty", x);
        type(x, "231032", "");
        dueResult("13: eighteen letters", x, "231032231032231032");
        int[] bad = {-1, -2, 18, 19, 32, 64, EXTREMES[0], EXTREMES[1]};
        for (int i : bad) {
            due("13: result(" + i + ")", x.result(i), ExampleLearner.NONE);
        }
        dueNoResult("13: no right program", learnt("", ""));
        dueResult("13: letters need no input", learnt("", "310"), "310");
        dueNoResult("13: the first atom gives nothing", learnt("012", "0120"));
        dueNoResult("13: the second atom gives nothing", learnt("012", "3012"));
        ExampleLearner first = learnt("0123", "2301");
        type(first, "3332", "");
        dueResult("13: the first program, not another", first, "3233");
    }

    private static void promise14Right() {
        ExampleLearner x = new ExampleLearner();
        for (int atom = 0; atom < 200; atom++) {
            due("14: without examples " + atom, x.right(atom), true);
        }
        dueNotRight(x);
        ExampleLearner one = learnt("01", "1");
        for (int atom = 0; atom < 200; atom++) {
            boolean want = atom == 1 || atom == slice(1, 2) || atom == slice(1, 7)
                    || atom == slice(8, 2) || atom == slice(8, 7);
            due("14: the last letter " + atom, one.right(atom), want);
        }
        dueNotRight(one);
        ExampleLearner two = learnt("01", "1", "012", "2");
        for (int atom = 0; atom < 200; atom++) {
            due("14: the last of both " + atom, two.right(atom), atom == slice(8, 7));
        }
        ExampleLearner none = learnt("01", "");
        for (int atom = 0; atom < 200; atom++) {
            due("14: the empty output " + atom, none.right(atom), false);
        }
        due("14: a part of the output is not the output", learnt("0", "00").right(0), false);
        due("14: more than the output is not the output", learnt("00", "0").right(slice(0, 2)), false);
        dueNotRight(none);
    }

    private static void dueNotRight(ExampleLearner x) {
        int[] bad = {-1, 200, 201, -200, 256, EXTREMES[0], EXTREMES[1]};
        for (int atom : bad) {
            due("14: right(" + atom + ")", x.right(atom), false);
        }
    }

    /** Each slice of each length of text, by the place that the Terms give a position. */
    private static void positions() {
        String whole = "012310";
        for (int length = 0; length <= 6; length++) {
            String in = whole.substring(0, length);
            for (int from = 0; from < length; from++) {
                for (int to = from + 1; to <= length; to++) {
                    positionsOf(in, from, to);
                }
            }
        }
    }

    private static void positionsOf(String in, int from, int to) {
        String out = in.substring(from, to);
        ExampleLearner x = learnt(in, out);
        due("one atom for " + out + " of " + in, x.least(), 1);
        int n = in.length();
        int[] starts = {from, 7 + n - from};
        int[] ends = {to, 7 + n - to};
        for (int p : starts) {
            for (int q : ends) {
                due(in + " from " + p + " to " + q, x.right(slice(p, q)), true);
                due(in + " from " + q + " to " + p, x.right(slice(q, p)), false);
            }
        }
        for (int k = n + 1; k <= 6; k++) {
            due(in + " to a position that isn't there", x.right(slice(from, k)), false);
            due(in + " from a position that isn't there", x.right(slice(7 + k, to)), false);
        }
    }

    private static void queriesChangeNothing() {
        ExampleLearner x = learnt("01", "01", "012", "012");
        type(x, "3210", "3210");
        for (int round = 0; round < 3; round++) {
            due("least again", x.least(), 1);
            due("programs again", x.programs(1), 1);
            due("atom again", x.atom(0), slice(0, 7));
            due("can again", x.can(), true);
            due("ways again", x.ways(), 1);
            due("right again", x.right(slice(0, 7)), true);
            due("not right again", x.right(slice(0, 2)), false);
            dueResult("again", x, "3210");
        }
        due("IN after the queries", x.typeIn(0), 5);
        due("OUT after the queries", x.typeOut(0), 5);
        due("the examples after the queries", x.forget(), 1);
    }
}
