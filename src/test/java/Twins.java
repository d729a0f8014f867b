import java.util.ArrayList;
import java.util.List;
import java.util.function.Consumer;

/**
 * Two objects with the same past, of which one gets a call more that must change nothing: every
 * later answer of the two must be the same. Each kind of question gets two new objects, since the
 * questions may change the objects, and an object is good for 512 calls alone.
 */
final class Twins {
    private static final long ARGUMENT = Long.MIN_VALUE;
    private static final long STATE = Long.MIN_VALUE + 1;
    private static final long DONE = Long.MIN_VALUE + 2;

    private interface Call {
        long answer();
    }

    private interface Question {
        void ask(SpaceBasis s, List<Long> answers);
    }

    private Twins() {
    }

    static void refusesArgument(String what, Consumer<SpaceBasis> past, Consumer<SpaceBasis> call) {
        alike(what, past, s -> Due.refusesArgument(what, () -> call.accept(s)));
    }

    static void refusesState(String what, Consumer<SpaceBasis> past, Consumer<SpaceBasis> call) {
        alike(what, past, s -> Due.refusesState(what, () -> call.accept(s)));
    }

    /** After the call the object answers as one that did not get it. */
    static void alike(String what, Consumer<SpaceBasis> past, Consumer<SpaceBasis> call) {
        becomes(what, past, call, s -> { });
    }

    /** After the call the object answers as one that got the other calls instead. */
    static void becomes(String what, Consumer<SpaceBasis> past, Consumer<SpaceBasis> call,
            Consumer<SpaceBasis> instead) {
        for (Question question : questions()) {
            SpaceBasis touched = new SpaceBasis();
            SpaceBasis other = new SpaceBasis();
            past.accept(touched);
            past.accept(other);
            call.accept(touched);
            instead.accept(other);
            List<Long> got = new ArrayList<>();
            List<Long> want = new ArrayList<>();
            question.ask(touched, got);
            question.ask(other, want);
            Due.same(what + ": later answers", got, want);
        }
    }

    private static List<Question> questions() {
        List<Question> all = new ArrayList<>();
        all.add(Twins::askHand);
        all.add(Twins::askBasis);
        for (int k = 0; k < 3; k++) {
            int member = k;
            all.add((s, answers) -> askMember(s, member, answers));
        }
        all.add(Twins::askRemainder);
        all.add(Twins::askField);
        all.add(Twins::askGeneratorCount);
        all.add(Twins::askGenerators);
        all.add((s, answers) -> askOrder(s, 3, answers));
        all.add((s, answers) -> askOrder(s, 4, answers));
        return all;
    }

    private static void note(List<Long> answers, Call call) {
        try {
            answers.add(call.answer());
        } catch (IllegalArgumentException e) {
            answers.add(ARGUMENT);
        } catch (IllegalStateException e) {
            answers.add(STATE);
        }
    }

    private static List<Integer> anyMonomials() {
        List<Integer> codes = new ArrayList<>(Edges.upToDegree(4, 4));
        for (int n = 1; n <= 4; n++) {
            codes.addAll(Edges.ofDegree(n, Edges.HIGHEST[n]));
        }
        return codes;
    }

    private static void askHand(SpaceBasis s, List<Long> answers) {
        for (int e : anyMonomials()) {
            note(answers, () -> s.hand(e));
        }
    }

    private static void askBasis(SpaceBasis s, List<Long> answers) {
        for (int i = -1; i <= 31; i++) {
            int argument = i;
            note(answers, () -> s.ideal(argument));
            note(answers, () -> s.lead(argument));
            note(answers, () -> s.standard(argument));
        }
        note(answers, s::proved);
    }

    private static void askMember(SpaceBasis s, int k, List<Long> answers) {
        for (int e : anyMonomials()) {
            note(answers, () -> s.member(k, e));
        }
    }

    private static void askRemainder(SpaceBasis s, List<Long> answers) {
        note(answers, () -> s.remainder() ? 1 : 0);
        note(answers, s::proved);
        askHand(s, answers);
    }

    private static void askField(SpaceBasis s, List<Long> answers) {
        note(answers, () -> {
            s.coefficient(0, -1);
            return s.hand(0);
        });
        for (int unit : Edges.UNIT) {
            for (int exponent = 0; exponent <= 31; exponent++) {
                int e = unit * exponent;
                note(answers, () -> {
                    s.coefficient(e, 1);
                    return DONE;
                });
            }
        }
    }

    private static void askGeneratorCount(SpaceBasis s, List<Long> answers) {
        for (int i = 0; i < 10; i++) {
            s.coefficient(0, 1);
            note(answers, s::join);
        }
    }

    private static void askGenerators(SpaceBasis s, List<Long> answers) {
        for (int d = 0; d <= 30; d++) {
            int degree = d;
            note(answers, () -> s.basis(degree));
            note(answers, () -> s.ideal(0));
            for (int k = 0; k < 4; k++) {
                int member = k;
                note(answers, () -> s.lead(member));
                note(answers, () -> s.member(member, 0));
            }
        }
    }

    private static void askOrder(SpaceBasis s, int n, List<Long> answers) {
        List<Integer> squares = Edges.ofDegree(n, 2);
        s.clear();
        for (int a : squares) {
            for (int b : squares) {
                if (a == Edges.UNIT[0] + Edges.UNIT[n - 1] && a != b) {
                    note(answers, () -> {
                        s.clear();
                        s.coefficient(a, 1);
                        s.coefficient(b, 1);
                        s.join();
                        s.basis(2);
                        return s.lead(0);
                    });
                }
            }
        }
    }
}
