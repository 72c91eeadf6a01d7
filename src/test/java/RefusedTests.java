import java.util.List;
import java.util.function.Consumer;
import java.util.function.ToIntFunction;

/**
 * Calls that are refused, by their errors, by the order of these, and by what they leave unchanged: each is made on an
 * object that then must answer all that one without the call answers, history, slots and pad looked into.
 */
public final class RefusedTests extends Sentences {
    private static final Consumer<CensoredThreads> FRESH = x -> { };
    private static final Consumer<CensoredThreads> BUSY = RefusedTests::busy;
    private static final Consumer<CensoredThreads> FULL = RefusedTests::full;
    private static final Consumer<CensoredThreads> LAST_WEEK = RefusedTests::lastWeek;

    private static final int[] FAR = {LOW, HIGH, LOW + 1, HIGH - 1, 1 << 16, -(1 << 16)};

    private static Consumer<CensoredThreads> before = FRESH;
    private static List<String> due = List.of();

    public static void main(String[] args) {
        changes();
        readOfABadText();
        readOfTooMany();
        passOfTooMany();
        questions();
        whatIfs();
        puts();
        undoAndSlots();
        firstErrorOfTwo();
        noneIsNoError();
        questionsChangeNothing();
        farValues();
        end("RefusedTests");
    }

    /** Letters that wait, have come and are burnt, a full history, something in the slot 0, a text on the pad. */
    private static void busy(CensoredThreads x) {
        x.strike(0, 0);
        x.strike(1, 1);
        write(x, "0>aab,0<c,1>aaa,2>b,3<abc,4>k,2<zz");
        x.pass(1);
        x.save(0);
        x.trade(0, 3);
        x.burn(5);
        x.set(TURNS, 4);
        x.strike(2, 2);
        Due.putAll(x, "2<xy,1>zz");
    }

    /** Forty letters, sixty signs, both slots used. */
    private static void full(CensoredThreads x) {
        allStrike(x, 'a');
        for (int i = 0; i < 4; i++) {
            write(x, "0>aaa,1>aa,2>b,3>ccc,4>dd,0<aa,1<bb,2<cc,3<d,4<e");
        }
        x.save(1);
        x.pass(2);
        x.save(0);
        x.burn(39);
        Due.putAll(x, times(14, "0>a") + ",0>bb");
    }

    private static void lastWeek(CensoredThreads x) {
        passUpTo(x, 9999);
        x.strike(3, 0);
        write(x, "0>aaa,1<b");
        Due.putAll(x, "0>a");
    }

    private static void given(Consumer<CensoredThreads> run) {
        before = run;
        due = Whole.behind(run);
    }

    /** A call that answers this, and leaves everything as it is without the call. */
    private static void leaves(String call, ToIntFunction<CensoredThreads> made, int answer) {
        CensoredThreads x = fresh();
        before.accept(x);
        is(call, made.applyAsInt(x), answer);
        Consumer<CensoredThreads> run = before;
        List<String> got = Whole.behind(y -> {
            run.accept(y);
            made.applyAsInt(y);
        });
        String difference = Whole.difference(due, got);
        is(call + " leaves all unchanged" + (difference.isEmpty() ? "" : ": " + difference), difference.length(), 0);
    }

    private static void changes() {
        says("A call that returns an error changes nothing.");
        given(BUSY);
        leaves("set(3, 1)", x -> x.set(3, 1), BAD_VALUE);
        leaves("set(-1, 1)", x -> x.set(-1, 1), BAD_VALUE);
        leaves("set(READS, 0)", x -> x.set(READS, 0), BAD_VALUE);
        leaves("set(READS, 10)", x -> x.set(READS, 10), BAD_VALUE);
        leaves("set(LIMIT, -1)", x -> x.set(LIMIT, -1), BAD_VALUE);
        leaves("set(LIMIT, 9)", x -> x.set(LIMIT, 9), BAD_VALUE);
        leaves("set(TURNS, 0)", x -> x.set(TURNS, 0), BAD_VALUE);
        leaves("set(TURNS, 6)", x -> x.set(TURNS, 6), BAD_VALUE);
        leaves("strike(-1, 0)", x -> x.strike(-1, 0), NO_SUCH);
        leaves("strike(4, 0)", x -> x.strike(4, 0), NO_SUCH);
        leaves("strike(0, -1)", x -> x.strike(0, -1), NO_SUCH);
        leaves("strike(0, 26)", x -> x.strike(0, 26), NO_SUCH);
        leaves("trade(-1, 0)", x -> x.trade(-1, 0), NO_SUCH);
        leaves("trade(8, 0)", x -> x.trade(8, 0), NO_SUCH);
        leaves("trade(0, -1)", x -> x.trade(0, -1), NO_SUCH);
        leaves("trade(0, 8)", x -> x.trade(0, 8), NO_SUCH);
        leaves("trade(5, 5)", x -> x.trade(5, 5), NOT_POSSIBLE);
        leaves("trade(5, 6)", x -> x.trade(5, 6), NOT_POSSIBLE);
        leaves("burn(-1)", x -> x.burn(-1), NO_SUCH);
        leaves("burn(7)", x -> x.burn(7), NO_SUCH);
        leaves("burn of one that has come", x -> x.burn(0), NOT_POSSIBLE);
        leaves("burn of one that is burnt", x -> x.burn(5), NOT_POSSIBLE);
        leaves("pass(0)", x -> x.pass(0), BAD_VALUE);
        leaves("pass(-1)", x -> x.pass(-1), BAD_VALUE);
        leaves("pass(53)", x -> x.pass(53), BAD_VALUE);
        given(FRESH);
        leaves("trade(0, 7) of a new object", x -> x.trade(0, 7), NOT_POSSIBLE);
        leaves("burn(0) of a new object", x -> x.burn(0), NO_SUCH);
        leaves("set(3, 3) of a new object", x -> x.set(3, 3), BAD_VALUE);
    }

    private static void readOfABadText() {
        says("BAD_TEXT if the pad has a fault");
        given(FRESH);
        leaves("read of an empty pad", x -> x.read(), BAD_TEXT);
        given(x -> {
            busy(x);
            x.put(',');
        });
        leaves("read of a text that ends too early", x -> x.read(), BAD_TEXT);
        given(x -> {
            busy(x);
            x.put('!');
        });
        leaves("read of a text with a fault", x -> x.read(), BAD_TEXT);
    }

    private static void readOfTooMany() {
        says("TOO_MANY if there would be more than 40.");
        given(FULL);
        leaves("read behind 40", x -> x.read(), TOO_MANY);
        given(x -> {
            writeMany(x, 38, "0>a");
            Due.putAll(x, "1>a,2>b,3>c");
        });
        leaves("read of three behind 38", x -> x.read(), TOO_MANY);
    }

    private static void passOfTooMany() {
        says("TOO_MANY if the weeks would be above 9999.");
        given(LAST_WEEK);
        leaves("pass(1)", x -> x.pass(1), TOO_MANY);
        leaves("pass(52)", x -> x.pass(52), TOO_MANY);
        given(x -> {
            passUpTo(x, 9990);
            write(x, "0>a,0<b");
        });
        leaves("pass(10) behind 9990", x -> x.pass(10), TOO_MANY);
    }

    private static void questions() {
        says("A call that returns an error changes nothing.");
        given(BUSY);
        leaves("letter(-1, 0)", x -> x.letter(-1, 0), NO_SUCH);
        leaves("letter(7, 0)", x -> x.letter(7, 0), NO_SUCH);
        leaves("letter(0, -1)", x -> x.letter(0, -1), BAD_VALUE);
        leaves("letter(6, 11)", x -> x.letter(6, 11), BAD_VALUE);
        leaves("word(7, 0)", x -> x.word(7, 0), NO_SUCH);
        leaves("word(0, 3)", x -> x.word(0, 3), NO_SUCH);
        leaves("word(0, -1)", x -> x.word(0, -1), NO_SUCH);
        leaves("why(-1)", x -> x.why(-1), NO_SUCH);
        leaves("why(7)", x -> x.why(7), NO_SUCH);
        leaves("censor(-1, 0)", x -> x.censor(-1, 0), NO_SUCH);
        leaves("censor(4, 0)", x -> x.censor(4, 0), NO_SUCH);
        leaves("censor(0, -1)", x -> x.censor(0, -1), BAD_VALUE);
        leaves("censor(0, 5)", x -> x.censor(0, 5), BAD_VALUE);
        leaves("onShift(0, -1)", x -> x.onShift(0, -1), NO_SUCH);
        leaves("onShift(0, 2)", x -> x.onShift(0, 2), NO_SUCH);
        leaves("onShift(-1, 0)", x -> x.onShift(-1, 0), BAD_VALUE);
        leaves("onShift(10000, 0)", x -> x.onShift(10000, 0), BAD_VALUE);
        leaves("count(-1)", x -> x.count(-1), BAD_VALUE);
        leaves("count(16)", x -> x.count(16), BAD_VALUE);
    }

    private static void whatIfs() {
        says("A call that returns an error changes nothing.");
        given(BUSY);
        leaves("untilCome(-1)", x -> x.untilCome(-1), NO_SUCH);
        leaves("untilCome(7)", x -> x.untilCome(7), NO_SUCH);
        leaves("ifPassed(0, 0)", x -> x.ifPassed(0, 0), BAD_VALUE);
        leaves("ifPassed(101, 0)", x -> x.ifPassed(101, 0), BAD_VALUE);
        leaves("ifPassed(1, -1)", x -> x.ifPassed(1, -1), BAD_VALUE);
        leaves("ifPassed(1, 3)", x -> x.ifPassed(1, 3), BAD_VALUE);
    }

    private static void puts() {
        says("BAD_VALUE if there is no character, a code is not 33 to 126, or a bit above 8 bits that are 0 is not 0; TOO_MANY if the pad "
            + "would be longer than 60.");
        given(BUSY);
        leaves("put(0)", x -> x.put(0L), BAD_VALUE);
        leaves("put of a space", x -> x.put(' '), BAD_VALUE);
        leaves("put of a wrong first character", x -> x.put(Due.number(" aaaaaaa")), BAD_VALUE);
        leaves("put of a wrong last character", x -> x.put(Due.number("aaaaaaa ")), BAD_VALUE);
        leaves("put of the code 127", x -> x.put((long) 'a' << 8 | 127), BAD_VALUE);
        leaves("put with a hole", x -> x.put(1L << 56 | 'a'), BAD_VALUE);
        leaves("put(-1)", x -> x.put(-1L), BAD_VALUE);
        given(FULL);
        leaves("put of one to 60", x -> x.put('a'), TOO_MANY);
        leaves("put of eight to 60", x -> x.put(Due.number("aaaaaaaa")), TOO_MANY);
        given(x -> Due.putAll(x, times(14, "0>a")));
        leaves("put of six to 55", x -> x.put(Due.number(",0>aaa")), TOO_MANY);
    }

    private static void undoAndSlots() {
        says("NOT_POSSIBLE if there is none.");
        given(x -> {
            Due.putAll(x, "0>a");
            x.save(1);
        });
        leaves("undo without a change", x -> x.undo(), NOT_POSSIBLE);
        says("NOT_POSSIBLE if nothing was saved in it.");
        leaves("restore of an empty slot", x -> x.restore(0), NOT_POSSIBLE);
        given(BUSY);
        leaves("restore of an empty slot behind changes", x -> x.restore(1), NOT_POSSIBLE);
        says("BAD_VALUE if there is no such slot");
        leaves("restore(-1)", x -> x.restore(-1), BAD_VALUE);
        leaves("restore(2)", x -> x.restore(2), BAD_VALUE);
        leaves("save(-1)", x -> x.save(-1), BAD_VALUE);
        leaves("save(2)", x -> x.save(2), BAD_VALUE);
    }

    private static void firstErrorOfTwo() {
        says("it names its errors in the order in which they are checked, and the first one that applies is returned");
        given(BUSY);
        leaves("trade of one shift that is not", x -> x.trade(8, 8), NO_SUCH);
        leaves("trade of one shift below", x -> x.trade(-1, -1), NO_SUCH);
        leaves("letter that is not, what that is not", x -> x.letter(7, 11), NO_SUCH);
        leaves("letter below, what below", x -> x.letter(-1, -1), NO_SUCH);
        leaves("censor that is not, what that is not", x -> x.censor(4, 5), NO_SUCH);
        leaves("censor below, what below", x -> x.censor(-1, -1), NO_SUCH);
        leaves("prison that is not, week that is not", x -> x.onShift(10000, 2), NO_SUCH);
        leaves("prison below, week below", x -> x.onShift(-1, -1), NO_SUCH);
        given(FULL);
        leaves("put of a space to a full pad", x -> x.put(' '), BAD_VALUE);
        leaves("put of nothing to a full pad", x -> x.put(0L), BAD_VALUE);
        leaves("put with a hole to a full pad", x -> x.put((long) 'a' << 16 | 'a'), BAD_VALUE);
        given(x -> {
            full(x);
            x.wipe();
            Due.putAll(x, "0>a,");
        });
        leaves("read of a fault behind 40 letters", x -> x.read(), BAD_TEXT);
        given(x -> {
            full(x);
            x.wipe();
        });
        leaves("read of an empty pad behind 40 letters", x -> x.read(), BAD_TEXT);
        given(LAST_WEEK);
        leaves("pass(0) in the week 9999", x -> x.pass(0), BAD_VALUE);
        leaves("pass(53) in the week 9999", x -> x.pass(53), BAD_VALUE);
        leaves("pass of the highest int in the week 9999", x -> x.pass(HIGH), BAD_VALUE);
        given(FRESH);
        leaves("restore(2), when nothing was saved", x -> x.restore(2), BAD_VALUE);
        leaves("restore(-1), when nothing was saved", x -> x.restore(-1), BAD_VALUE);
    }

    private static void noneIsNoError() {
        says("NONE (-6) is not an error; it is returned only if no error applies.");
        given(FRESH);
        for (int what : new int[] {PLACE, DELAY, BY, AHEAD}) {
            leaves("letter(0, " + what + ") without letters", x -> x.letter(0, what), NO_SUCH);
        }
        leaves("untilCome without letters", x -> x.untilCome(0), NO_SUCH);
        leaves("bestTrade without letters", x -> x.bestTrade(), NONE);
        given(BUSY);
        leaves("place of one that has come", x -> x.letter(0, PLACE), NONE);
        leaves("delay of one that waits", x -> x.letter(1, DELAY), NONE);
        leaves("censor of one that waits", x -> x.letter(1, BY), NONE);
        leaves("the letter ahead of the first", x -> x.letter(0, AHEAD), NONE);
        leaves("untilCome of one that is burnt", x -> x.untilCome(5), NONE);
        leaves("fault", x -> x.fault(), NONE);
    }

    private static void questionsChangeNothing() {
        says("what there is; nothing changes.");
        given(BUSY);
        leaves("letter", x -> x.letter(1, PLACE), 0);
        leaves("word", x -> x.word(0, 0), '*');
        leaves("why", x -> x.why(2), 0);
        leaves("censor", x -> x.censor(0, LETTERS_READ), 3);
        leaves("onShift", x -> x.onShift(0, 0), 2);
        leaves("count", x -> x.count(WAITING_THREADS), 3);
        says("what if; nothing changes.");
        leaves("untilCome", x -> x.untilCome(2), 1);
        leaves("ifPassed", x -> x.ifPassed(100, 0), 3);
        leaves("bestTrade", x -> x.bestTrade(), NONE);
        leaves("leastLimit", x -> x.leastLimit(), 0);
        given(FULL);
        leaves("untilCome of one of forty", x -> x.untilCome(39), NONE);
        leaves("ifPassed with forty", x -> x.ifPassed(100, 1), 3);
        leaves("leastLimit with forty", x -> x.leastLimit(), 3);
    }

    /** Values that would wrap around, if they were shifted, multiplied or added before they are looked at. */
    private static void farValues() {
        says("it names its errors in the order in which they are checked, and the first one that applies is returned");
        CensoredThreads x = fresh();
        BUSY.accept(x);
        for (int far : FAR) {
            is("set of " + far, x.set(far, 1), BAD_VALUE);
            is("set to " + far, x.set(LIMIT, far), BAD_VALUE);
            is("strike by " + far, x.strike(far, 0), NO_SUCH);
            is("strike of " + far, x.strike(0, far), NO_SUCH);
            is("trade of " + far, x.trade(far, 0), NO_SUCH);
            is("trade with " + far, x.trade(0, far), NO_SUCH);
            is("burn of " + far, x.burn(far), NO_SUCH);
            is("pass of " + far, x.pass(far), BAD_VALUE);
            is("letter " + far, x.letter(far, 0), NO_SUCH);
            is("what " + far + " of a letter", x.letter(0, far), BAD_VALUE);
            is("word of the letter " + far, x.word(far, 0), NO_SUCH);
            is("place " + far, x.word(0, far), NO_SUCH);
            is("why " + far, x.why(far), NO_SUCH);
            is("censor " + far, x.censor(far, 0), NO_SUCH);
            is("what " + far + " of a censor", x.censor(0, far), BAD_VALUE);
            is("week " + far, x.onShift(far, 0), BAD_VALUE);
            is("prison " + far, x.onShift(0, far), NO_SUCH);
            is("count " + far, x.count(far), BAD_VALUE);
            is("untilCome " + far, x.untilCome(far), NO_SUCH);
            is("weeks " + far, x.ifPassed(far, 0), BAD_VALUE);
            is("what " + far + " of weeks", x.ifPassed(1, far), BAD_VALUE);
            is("save " + far, x.save(far), BAD_VALUE);
            is("restore " + far, x.restore(far), BAD_VALUE);
        }
        for (int bit = 8; bit < 64; bit++) {
            is("put of a bit alone, " + bit, x.put(1L << bit), BAD_VALUE);
        }
    }
}
