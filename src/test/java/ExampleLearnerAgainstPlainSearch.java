import java.util.ArrayList;
import java.util.Arrays;
import java.util.List;

/**
 * Long runs of calls, each answer against a search that knows the document's Terms alone: it goes
 * through the programs in their order, past those whose beginning is wrong already, turns the
 * examples' texts with each and keeps the right ones. Without examples the programs of three atoms
 * are not gone through: all are right by the Terms.
 */
public final class ExampleLearnerAgainstPlainSearch {
    private static final int RUNS = 100;
    private static final int CALLS = 512; // what later calls answer is free
    private static final int MOST_CHANGES = 14; // erase, two texts of six letters and learn
    private static final int QUESTIONS = 12;
    private static final int[] ODD_NUMBERS = {-1, 4, 18, 199, 200, Integer.MIN_VALUE, Integer.MAX_VALUE};

    private static int wrong = 0;
    private static long seed = 20261115;

    private final ExampleLearner learner = new ExampleLearner();
    private final List<String[]> examples = new ArrayList<>();
    private String in = "";
    private String out = "";

    // What the search found for the examples; it is made anew when they change.
    private boolean searched = false;
    private final int[] counts = new int[4];
    private final List<int[]> leastPrograms = new ArrayList<>();

    // A text is often changed by this program, so that right programs are not rare.
    private int[] hidden;

    public static void main(String[] args) {
        for (int run = 0; run < RUNS && wrong < 20; run++) {
            new ExampleLearnerAgainstPlainSearch().run(run);
        }
        System.out.println(wrong == 0 ? "all answers are as searched" : wrong + " answers are not as searched");
        if (wrong != 0) {
            System.exit(1);
        }
    }

    /** The same numbers in each run of the test: a fixed sequence stands in for chance. */
    private static int pick(int below) {
        seed = seed * 6364136223846793005L + 1442695040888963407L;
        return (int) ((seed >>> 33) % below);
    }

    private void run(int run) {
        int alphabet = 1 + run % 4;
        hidden = pickProgram();
        int calls = 0;
        while (calls + MOST_CHANGES + QUESTIONS <= CALLS) {
            calls += changeSomething(run, alphabet);
            for (int i = 0; i < QUESTIONS; i++) {
                ask(run);
            }
            calls += QUESTIONS;
        }
    }

    private static int[] pickProgram() {
        int[] program = new int[1 + pick(3)];
        for (int i = 0; i < program.length; i++) {
            program[i] = pick(4) == 0 ? pick(4) : pick(200);
        }
        return program;
    }

    private int changeSomething(int run, int alphabet) {
        switch (pick(8)) {
            case 0:
                return typeOdd(run);
            case 1:
                due(run, "forget()", learner.forget(), examples.isEmpty() ? -3 : examples.size() - 1);
                if (!examples.isEmpty()) {
                    examples.remove(examples.size() - 1);
                    searched = false;
                }
                return 1;
            case 2:
                hidden = pickProgram();
                return typePair(run, alphabet);
            case 3:
            case 4:
                return typePair(run, alphabet);
            default:
                return typePair(run, alphabet) + learn(run);
        }
    }

    private int learn(int run) {
        boolean full = examples.size() == 2;
        due(run, "learn()", learner.learn(), full ? -2 : examples.size() + 1);
        if (!full) {
            examples.add(new String[] {in, out});
            searched = false;
        }
        return 1;
    }

    private int typePair(int run, int alphabet) {
        learner.erase();
        in = "";
        out = "";
        String wantedIn = pickText(alphabet);
        String turned = turn(hidden, wantedIn);
        boolean useTurned = turned != null && turned.length() <= 6 && pick(5) != 0;
        String wantedOut = useTurned ? turned : pickText(alphabet);
        for (char c : wantedIn.toCharArray()) {
            typeIn(run, c - '0');
        }
        for (char c : wantedOut.toCharArray()) {
            typeOut(run, c - '0');
        }
        return 1 + wantedIn.length() + wantedOut.length();
    }

    private static String pickText(int alphabet) {
        StringBuilder text = new StringBuilder();
        int length = pick(7);
        for (int i = 0; i < length; i++) {
            text.append(pick(alphabet));
        }
        return text.toString();
    }

    private int typeOdd(int run) {
        typeIn(run, ODD_NUMBERS[pick(ODD_NUMBERS.length)]);
        typeOut(run, ODD_NUMBERS[pick(ODD_NUMBERS.length)]);
        typeIn(run, pick(4));
        typeOut(run, pick(4));
        return 4;
    }

    private void typeIn(int run, int letter) {
        int want = typed(in, letter);
        due(run, "typeIn(" + letter + ")", learner.typeIn(letter), want);
        in += want > 0 ? "" + letter : "";
    }

    private void typeOut(int run, int letter) {
        int want = typed(out, letter);
        due(run, "typeOut(" + letter + ")", learner.typeOut(letter), want);
        out += want > 0 ? "" + letter : "";
    }

    private static int typed(String text, int letter) {
        if (letter < 0 || letter > 3) {
            return -1;
        }
        return text.length() == 6 ? -2 : text.length() + 1;
    }

    private void ask(int run) {
        search();
        int number = pick(6) == 0 ? ODD_NUMBERS[pick(ODD_NUMBERS.length)] : pick(4);
        int[] first = leastPrograms.isEmpty() ? null : leastPrograms.get(0);
        String turned = first == null ? null : turn(first, in);
        switch (pick(8)) {
            case 0:
                due(run, "least()", learner.least(), first == null ? -3 : first.length);
                break;
            case 1:
                int count = number >= 1 && number <= 3 ? counts[number] : -4;
                due(run, "programs(" + number + ")", learner.programs(number), count);
                break;
            case 2:
                boolean there = first != null && number >= 0 && number < first.length;
                due(run, "atom(" + number + ")", learner.atom(number), there ? first[number] : -3);
                break;
            case 3:
                due(run, "can()", learner.can() ? 1 : 0, waysFound() > 0 ? 1 : 0);
                break;
            case 4:
                due(run, "ways()", learner.ways(), waysFound());
                break;
            case 5:
                due(run, "resultLength()", learner.resultLength(), turned == null ? -3 : turned.length());
                break;
            case 6:
                int i = number == 3 ? pick(19) : number;
                boolean inside = turned != null && i >= 0 && i < turned.length();
                due(run, "result(" + i + ")", learner.result(i), inside ? turned.charAt(i) - '0' : -3);
                break;
            default:
                int atom = number == 3 ? pick(200) : number;
                boolean right = atom >= 0 && atom < 200 && isRight(new int[] {atom});
                due(run, "right(" + atom + ")", learner.right(atom) ? 1 : 0, right ? 1 : 0);
                break;
        }
    }

    private int waysFound() {
        int ways = 0;
        for (int[] program : leastPrograms) {
            ways += out.equals(turn(program, in)) ? 1 : 0;
        }
        return ways;
    }

    private void search() {
        if (searched) {
            return;
        }
        searched = true;
        Arrays.fill(counts, 0);
        leastPrograms.clear();
        for (int a = 0; a < 200; a++) {
            take(new int[] {a});
        }
        for (int a = 0; a < 200; a++) {
            for (int b = 0; b < 200 && begins(new int[] {a}); b++) {
                take(new int[] {a, b});
            }
        }
        if (examples.isEmpty()) {
            counts[3] = 200 * 200 * 200;
            return;
        }
        for (int a = 0; a < 200; a++) {
            for (int b = 0; b < 200 && begins(new int[] {a}); b++) {
                for (int c = 0; c < 200 && begins(new int[] {a, b}); c++) {
                    take(new int[] {a, b, c});
                }
            }
        }
    }

    private void take(int[] program) {
        if (!isRight(program)) {
            return;
        }
        counts[program.length]++;
        if (leastPrograms.isEmpty() || leastPrograms.get(0).length == program.length) {
            leastPrograms.add(program);
        }
    }

    private boolean isRight(int[] program) {
        for (String[] example : examples) {
            if (!example[1].equals(turn(program, example[0]))) {
                return false;
            }
        }
        return true;
    }

    private boolean begins(int[] program) {
        for (String[] example : examples) {
            String turned = turn(program, example[0]);
            if (turned == null || !example[1].startsWith(turned)) {
                return false;
            }
        }
        return true;
    }

    private static String turn(int[] program, String text) {
        StringBuilder turned = new StringBuilder();
        for (int atom : program) {
            String given = give(atom, text);
            if (given == null) {
                return null;
            }
            turned.append(given);
        }
        return turned.toString();
    }

    private static String give(int atom, String text) {
        if (atom < 4) {
            return "" + atom;
        }
        int p = (atom - 4) / 14;
        int q = (atom - 4) % 14;
        if (p % 7 > text.length() || q % 7 > text.length()) {
            return null;
        }
        int from = p < 7 ? p : text.length() - (p - 7);
        int to = q < 7 ? q : text.length() - (q - 7);
        return from < to ? text.substring(from, to) : null;
    }

    private void due(int run, String call, int got, int want) {
        if (got != want) {
            wrong++;
            System.out.println("run " + run + ", examples " + Arrays.deepToString(examples.toArray()) + ", IN " + in
                    + ", OUT " + out + ": " + call + " answered " + got + ", due is " + want);
        }
    }
}
