import java.util.ArrayList;
import java.util.List;
import java.util.function.Consumer;
import java.util.function.ToIntFunction;

/**
 * All that an object answers behind a run of calls: its state, the states in its history and in its slots, and its pad.
 * New objects are made for it time and again, since a look into history, slots and pad changes an object, and since
 * nothing is promised of an object that was used for more than 512 calls.
 */
final class Whole {
    private static final int QUESTIONS_AN_OBJECT = 200;

    private final Consumer<CensoredThreads> run;
    private final List<String> answers = new ArrayList<>();
    private CensoredThreads asked;
    private int left = 0;

    private Whole(Consumer<CensoredThreads> run) {
        this.run = run;
    }

    static List<String> behind(Consumer<CensoredThreads> run) {
        Whole whole = new Whole(run);
        whole.look("as it is", x -> 0);
        for (int undos = 1; undos <= 5; undos++) {
            int times = undos;
            whole.look("undo " + undos, x -> undo(x, times));
        }
        whole.look("restore 0", x -> x.restore(0));
        whole.look("restore 1", x -> x.restore(1));
        whole.look("read", x -> x.read());
        whole.look("one more word, and read", x -> 100 * Due.putAll(x, "k") + x.read());
        whole.look("one more letter, and read", x -> 100 * Due.putAll(x, "4>kk") + x.read());
        return whole.answers;
    }

    /** What differs first, "" if nothing does. */
    static String difference(List<String> some, List<String> others) {
        for (int i = 0; i < Math.min(some.size(), others.size()); i++) {
            if (!some.get(i).equals(others.get(i))) {
                return some.get(i) + " against " + others.get(i);
            }
        }
        return some.size() == others.size() ? "" : some.size() + " answers against " + others.size();
    }

    private static int undo(CensoredThreads x, int times) {
        int answer = 0;
        for (int i = 0; i < times; i++) {
            answer = x.undo();
        }
        return answer;
    }

    private void look(String ending, ToIntFunction<CensoredThreads> end) {
        CensoredThreads x = new CensoredThreads();
        run.accept(x);
        answers.add(ending + " = " + end.applyAsInt(x));
        int letters = x.count(4);
        left = 0;
        for (int what = 0; what <= 15; what++) {
            int w = what;
            ask(ending, end, "count(" + w + ")", o -> o.count(w));
        }
        for (int censor = 0; censor < 4; censor++) {
            askOfCensor(ending, end, censor);
        }
        for (int letter = 0; letter < letters; letter++) {
            askOfLetter(ending, end, letter);
        }
        for (int what = 0; what < 3; what++) {
            int w = what;
            ask(ending, end, "ifPassed(4, " + w + ")", o -> o.ifPassed(4, w));
        }
        ask(ending, end, "bestTrade()", o -> o.bestTrade());
        ask(ending, end, "leastLimit()", o -> o.leastLimit());
        ask(ending, end, "fault()", o -> o.fault());
    }

    private void askOfCensor(String ending, ToIntFunction<CensoredThreads> end, int censor) {
        for (int what = 0; what < 5; what++) {
            int w = what;
            ask(ending, end, "censor(" + censor + ", " + w + ")", o -> o.censor(censor, w));
        }
        ask(ending, end, "onShift(" + censor + ", 0)", o -> o.onShift(censor, 0));
        ask(ending, end, "onShift(" + censor + ", 1)", o -> o.onShift(censor, 1));
    }

    private void askOfLetter(String ending, ToIntFunction<CensoredThreads> end, int letter) {
        ask(ending, end, "why(" + letter + ")", o -> o.why(letter));
        ask(ending, end, "untilCome(" + letter + ")", o -> o.untilCome(letter));
        for (int what = 0; what <= 10; what++) {
            int w = what;
            ask(ending, end, "letter(" + letter + ", " + w + ")", o -> o.letter(letter, w));
        }
        for (int place = 0; place < 8; place++) {
            int p = place;
            ask(ending, end, "word(" + letter + ", " + p + ")", o -> o.word(letter, p));
        }
    }

    private void ask(String ending, ToIntFunction<CensoredThreads> end, String question, ToIntFunction<CensoredThreads> call) {
        if (left == 0) {
            asked = new CensoredThreads();
            run.accept(asked);
            end.applyAsInt(asked);
            left = QUESTIONS_AN_OBJECT;
        }
        left--;
        answers.add(ending + ", " + question + " = " + call.applyAsInt(asked));
    }
}
