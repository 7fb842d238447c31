import java.util.ArrayList;
import java.util.List;

/**
 * "A refused call changes nothing" (promises 2, 3, 5 and 6, and the bad count of promise 8) and "The
 * calls below change nothing" (promises 7 to 14), state by state: of two objects with the same calls
 * behind them one makes a refused or an asking call more, and from there on both must answer alike.
 * What was asked in one state leaves no trace in another.
 */
public final class ExampleLearnerNothingChanges {
    private static final int BAD_LETTER = -1;
    private static final int FULL = -2;
    private static final int NONE = -3;
    private static final int BAD_COUNT = -4;

    // Input and output of the examples, then IN and OUT.
    private static final String[][] STATES = {
        {"", ""},
        {"", "302113"},
        {"302113", ""},
        {"30211", "302113"},
        {"302113", "30211"},
        {"000000", "000000"},
        {"", "", "", ""},
        {"01", "01", "302113", "302113"},
        {"0123", "2301", "3210", "1032"},
        {"302113", "302113", "012301", "012301"},
        {"", "0123", "302113", "2"},
        {"", "", "", "", "302113", "302113"},
        {"01", "01", "012", "012", "", ""},
        {"01", "01", "012", "012", "302113", "302113"},
        {"01", "010101", "3", "333", "302113", "3"},
        {"01", "1", "210", "0", "30211", "1"},
        {"0", "0", "0", "", "1", "1"},
        {"000000", "00", "00", "0"},
        {"000000", "0", "000000", "0", "000000", "00"},
    };

    private static final int[] BAD_LETTERS = {-1, 4, 5, Integer.MIN_VALUE, Integer.MAX_VALUE};
    private static final int[] NUMBERS = {
        Integer.MIN_VALUE, -1, 0, 1, 2, 3, 4, 11, 17, 18, 199, 200, Integer.MAX_VALUE,
    };

    private static final int WAYS_ON = 6;

    private static int wrong = 0;

    public static void main(String[] args) {
        for (String[] state : STATES) {
            refused(state);
            asking(state);
            leavesNoTrace(state);
        }
        System.out.println(wrong == 0 ? "nothing changes" : wrong + " answers are not as due");
        if (wrong != 0) {
            System.exit(1);
        }
    }

    private interface Call {
        int of(ExampleLearner x);
    }

    private static ExampleLearner made(String[] state) {
        ExampleLearner x = new ExampleLearner();
        make(x, state);
        return x;
    }

    private static void make(ExampleLearner x, String[] state) {
        for (int i = 0; i < state.length; i += 2) {
            x.erase();
            for (char c : state[i].toCharArray()) {
                x.typeIn(c - '0');
            }
            for (char c : state[i + 1].toCharArray()) {
                x.typeOut(c - '0');
            }
            if (i + 2 < state.length) {
                x.learn();
            }
        }
    }

    private static void refused(String[] state) {
        List<Integer> want = later(state, x -> 0);
        String in = state[state.length - 2];
        String out = state[state.length - 1];
        for (int letter : BAD_LETTERS) {
            refuses(state, want, "promise 2, typeIn(" + letter + ")", x -> x.typeIn(letter), BAD_LETTER);
            refuses(state, want, "promise 3, typeOut(" + letter + ")", x -> x.typeOut(letter), BAD_LETTER);
        }
        for (int letter = 0; letter <= 3; letter++) {
            int good = letter;
            if (in.length() == 6) {
                refuses(state, want, "promise 2, typeIn(" + good + ")", x -> x.typeIn(good), FULL);
            }
            if (out.length() == 6) {
                refuses(state, want, "promise 3, typeOut(" + good + ")", x -> x.typeOut(good), FULL);
            }
        }
        if (state.length == 6) {
            refuses(state, want, "promise 5, learn()", x -> x.learn(), FULL);
        }
        if (state.length == 2) {
            refuses(state, want, "promise 6, forget()", x -> x.forget(), NONE);
        }
        for (int count : new int[] {-1, 0, 4, Integer.MIN_VALUE, Integer.MAX_VALUE}) {
            refuses(state, want, "promise 8, programs(" + count + ")", x -> x.programs(count), BAD_COUNT);
        }
    }

    private static void asking(String[] state) {
        List<Integer> want = later(state, x -> 0);
        asks(state, want, "promise 7, least()", x -> x.least());
        for (int count = 1; count <= 3; count++) {
            int good = count;
            asks(state, want, "promise 8, programs(" + good + ")", x -> x.programs(good));
        }
        asks(state, want, "promise 10, can()", x -> x.can() ? 1 : 0);
        asks(state, want, "promise 11, ways()", x -> x.ways());
        asks(state, want, "promise 12, resultLength()", x -> x.resultLength());
        for (int number : NUMBERS) {
            asks(state, want, "promise 9, atom(" + number + ")", x -> x.atom(number));
            asks(state, want, "promise 13, result(" + number + ")", x -> x.result(number));
            asks(state, want, "promise 14, right(" + number + ")", x -> x.right(number) ? 1 : 0);
        }
    }

    /** Asked everything in another state first, an object answers as one that was never asked. */
    private static void leavesNoTrace(String[] state) {
        List<Integer> want = new ArrayList<>();
        everyAnswer(made(state), want);
        for (String[] before : STATES) {
            ExampleLearner x = made(before);
            everyAnswer(x, new ArrayList<>());
            x.forget();
            x.forget();
            make(x, state);
            List<Integer> got = new ArrayList<>();
            everyAnswer(x, got);
            if (!got.equals(want)) {
                wrong++;
                System.out.println("promises 7 to 14, what was asked behind " + String.join(",", before)
                        + " changed what is answered behind " + String.join(",", state));
            }
        }
    }

    private static void refuses(String[] state, List<Integer> want, String name, Call call, int answer) {
        int got = call.of(made(state));
        if (got != answer) {
            wrong++;
            System.out.println(name + " behind " + String.join(",", state) + " answered " + got + ", due is " + answer);
        }
        same(state, want, name, call);
    }

    private static void asks(String[] state, List<Integer> want, String name, Call call) {
        ExampleLearner x = made(state);
        int first = call.of(x);
        int second = call.of(x);
        if (first != second) {
            wrong++;
            System.out.println(name + " behind " + String.join(",", state) + " answered " + first + ", then " + second);
        }
        same(state, want, name, call);
    }

    private static void same(String[] state, List<Integer> want, String name, Call call) {
        if (!later(state, call).equals(want)) {
            wrong++;
            System.out.println(name + " behind " + String.join(",", state) + " changed what is answered later");
        }
    }

    /**
     * The answers that follow the call in this state. Each way of going on begins with a new object, and
     * all but one change something before they ask, so that what asking itself may do hides nothing.
     */
    private static List<Integer> later(String[] state, Call call) {
        List<Integer> answers = new ArrayList<>();
        for (int way = 0; way < WAYS_ON; way++) {
            ExampleLearner x = made(state);
            call.of(x);
            goOn(x, way, answers);
            everyAnswer(x, answers);
        }
        return answers;
    }

    private static void goOn(ExampleLearner x, int way, List<Integer> answers) {
        switch (way) {
            case 0:
                break;
            case 1:
                answers.add(x.typeIn(2));
                answers.add(x.typeOut(2));
                break;
            case 2:
                answers.add(x.learn());
                break;
            case 3:
                answers.add(x.forget());
                break;
            case 4:
                answers.add(x.forget());
                answers.add(x.forget());
                answers.add(x.learn());
                break;
            default:
                x.erase();
                answers.add(x.typeIn(1));
                answers.add(x.typeOut(1));
                break;
        }
    }

    private static void everyAnswer(ExampleLearner x, List<Integer> answers) {
        answers.add(x.least());
        for (int i = 0; i < 3; i++) {
            answers.add(x.programs(i + 1));
            answers.add(x.atom(i));
        }
        answers.add(x.can() ? 1 : 0);
        answers.add(x.ways());
        answers.add(x.resultLength());
        for (int i = 0; i < 18; i++) {
            answers.add(x.result(i));
        }
        for (int atom = 0; atom < 200; atom += 3) {
            answers.add(x.right(atom) ? 1 : 0);
        }
    }
}
