/**
 * The promises 1 to 21 of ../shared/DOC.md in use, with answers worked out by hand. Single sentences, edges, refused calls,
 * save and restore stand in the other tests.
 */
public final class PromiseTests {
    private static final int NO_SUCH = -1, BAD_VALUE = -2, BAD_TEXT = -3, TOO_MANY = -4, NOT_POSSIBLE = -5, NONE = -6;
    private static final int READS = 0, LIMIT = 1, TURNS = 2;
    private static final int LOW = Integer.MIN_VALUE, HIGH = Integer.MAX_VALUE;

    private static final Due due = new Due();

    public static void main(String[] args) {
        newObject();
        set();
        strike();
        trade();
        readWrites();
        readRefuses();
        burn();
        passInTurn();
        passTurnsBack();
        passWaitsForTheLetterAhead();
        passRefuses();
        letter();
        word();
        why();
        censor();
        onShift();
        count();
        untilCome();
        untilComeWithinHundred();
        ifPassed();
        bestTrade();
        bestTradeOfSeveral();
        leastLimit();
        put();
        wipe();
        fault();
        undo();
        due.end("PromiseTests");
    }

    private static void is(String call, long got, long want) {
        due.is(call, got, want);
    }

    /** All answers of count, in a row, so that a test can tell them at once. */
    private static void counts(String when, CensoredThreads x, int... want) {
        for (int what = 0; what < want.length; what++) {
            is(when + ": count(" + what + ")", x.count(what), want[what]);
        }
    }

    private static void letters(String when, CensoredThreads x, int letter, int... want) {
        for (int what = 0; what < want.length; what++) {
            is(when + ": letter(" + letter + ", " + what + ")", x.letter(letter, what), want[what]);
        }
    }

    private static void censors(String when, CensoredThreads x, int censor, int... want) {
        for (int what = 0; what < want.length; what++) {
            is(when + ": censor(" + censor + ", " + what + ")", x.censor(censor, what), want[what]);
        }
    }

    // Promise 1
    private static void newObject() {
        CensoredThreads x = new CensoredThreads();
        counts("1 new", x, 3, 2, 2, 0, 0, 0, 0, 0, 0, 0, 0, 0, 0, 0, 0, 0);
        for (int c = 0; c < 4; c++) {
            censors("1 new", x, c, 0, 2, 0, 0, 0);
        }
        for (int week = 0; week < 9; week++) {
            is("1 new: onShift(" + week + ", 0)", x.onShift(week, 0), week % 4);
            is("1 new: onShift(" + week + ", 1)", x.onShift(week, 1), (week + 1) % 4);
        }
        is("1 new: letter", x.letter(0, 0), NO_SUCH);
        is("1 new: undo", x.undo(), NOT_POSSIBLE);
        is("1 new: restore 0", x.restore(0), NOT_POSSIBLE);
        is("1 new: restore 1", x.restore(1), NOT_POSSIBLE);
        is("1 new: fault", x.fault(), 0);
    }

    // Promise 2
    private static void set() {
        CensoredThreads x = new CensoredThreads();
        is("2 set READS 9", x.set(READS, 9), 3);
        is("2 set READS 1", x.set(READS, 1), 9);
        is("2 set LIMIT 8", x.set(LIMIT, 8), 2);
        is("2 set LIMIT 0", x.set(LIMIT, 0), 8);
        is("2 set TURNS 5", x.set(TURNS, 5), 2);
        is("2 set TURNS 1", x.set(TURNS, 1), 5);
        counts("2 set", x, 1, 0, 1);
        int[] wrongValues = {0, 10, -1, 9, 0, 6};
        for (int i = 0; i < 6; i++) {
            is("2 set " + i / 2 + " to " + wrongValues[i], x.set(i / 2, wrongValues[i]), BAD_VALUE);
            is("2 set " + i / 2 + " to the lowest int", x.set(i / 2, LOW), BAD_VALUE);
            is("2 set " + i / 2 + " to the highest int", x.set(i / 2, HIGH), BAD_VALUE);
        }
        for (int setting : new int[] {-1, 3, LOW, HIGH}) {
            is("2 set of " + setting, x.set(setting, 1), BAD_VALUE);
        }
        counts("2 set refused", x, 1, 0, 1);
        is("2 set to the same", x.set(READS, 1), 1);
    }

    // Promise 3
    private static void strike() {
        CensoredThreads x = new CensoredThreads();
        is("3 strike a", x.strike(3, 0), 1);
        is("3 strike z", x.strike(3, 25), 2);
        is("3 set of words", x.censor(3, 0), 1 | 1 << 25);
        is("3 strike a no more", x.strike(3, 0), 1);
        is("3 set of words then", x.censor(3, 0), 1 << 25);
        is("3 others strike none", x.censor(2, 0), 0);
        for (int word = 0; word < 26; word++) {
            is("3 strike all", x.strike(0, word), word + 1);
        }
        is("3 all words", x.censor(0, 0), (1 << 26) - 1);
        for (int wrong : new int[] {-1, LOW, HIGH}) {
            is("3 strike of " + wrong, x.strike(wrong, 0), NO_SUCH);
            is("3 strike word " + wrong, x.strike(0, wrong), NO_SUCH);
        }
        is("3 strike of 4", x.strike(4, 0), NO_SUCH);
        is("3 strike word 26", x.strike(0, 26), NO_SUCH);
        is("3 unchanged", x.censor(0, 0), (1 << 26) - 1);
    }

    // Promise 4
    private static void trade() {
        CensoredThreads x = new CensoredThreads();
        is("4 trade 0 and 7: both 0", x.trade(0, 7), NOT_POSSIBLE);
        is("4 trade 5 with itself", x.trade(5, 5), NOT_POSSIBLE);
        is("4 trade 2 and 5", x.trade(2, 5), 3);
        is("4 week 1", x.onShift(1, 0), 3);
        is("4 week 2", x.onShift(2, 1), 1);
        is("4 week 1, other prison", x.onShift(1, 1), 2);
        is("4 trade 7 and 6", x.trade(7, 6), 3);
        is("4 week 3", x.onShift(3, 0), 0);
        for (int wrong : new int[] {-1, 8, LOW, HIGH}) {
            is("4 trade " + wrong + " and 0", x.trade(wrong, 0), NO_SUCH);
            is("4 trade 0 and " + wrong, x.trade(0, wrong), NO_SUCH);
            is("4 trade " + wrong + " with itself", x.trade(wrong, wrong), NO_SUCH);
        }
    }

    // Promise 5
    private static void readWrites() {
        CensoredThreads x = new CensoredThreads();
        Due.putAll(x, "0>ab,4<zyxwvuts,0<c");
        is("5 read", x.read(), 3);
        is("5 the pad is empty", x.count(14), 0);
        letters("5 first", x, 0, 0, 0, 0, 0, 0, NONE, 0, 0, NONE, NONE, 2);
        letters("5 second", x, 1, 4, 1, 0, 0, 0, NONE, 0, 0, NONE, NONE, 8);
        letters("5 third", x, 2, 0, 1, 0, 1, 0, NONE, 0, 0, NONE, 0, 1);
        is("5 word", x.word(1, 0), 'z');
        is("5 last word", x.word(1, 7), 's');
        x.pass(2);
        Due.putAll(x, "4>b");
        is("5 read one more", x.read(), 4);
        letters("5 fourth", x, 3, 4, 0, 0, 0, 2, NONE, 0, 0, NONE, 1, 1);
    }

    private static void readRefuses() {
        CensoredThreads x = new CensoredThreads();
        is("5 read of nothing", x.read(), BAD_TEXT);
        Due.putAll(x, "0>a,");
        is("5 read of a text that ends too early", x.read(), BAD_TEXT);
        is("5 the pad stays", x.count(14), 4);
        x.wipe();
        String twelve = "0>a,0>a,0>a,0>a,0>a,0>a,0>a,0>a,0>a,0>a,0>a,0>a";
        for (int i = 1; i <= 3; i++) {
            Due.putAll(x, twelve);
            is("5 read twelve", x.read(), 12 * i);
        }
        Due.putAll(x, "0>a,0>a,0>a,0>a,0>a");
        is("5 read of letter 41", x.read(), TOO_MANY);
        is("5 the pad stays, too many", x.count(14), 19);
        is("5 letters stay", x.count(4), 36);
        x.wipe();
        Due.putAll(x, "1>a,1>a,1>a,1<b");
        is("5 read up to 40", x.read(), 40);
        is("5 the last one's prison", x.letter(39, 1), 1);
        Due.putAll(x, "1>a");
        is("5 read beyond 40", x.read(), TOO_MANY);
        Due.putAll(x, ",");
        is("5 the fault is named first", x.read(), BAD_TEXT);
        x.burn(0);
        x.wipe();
        Due.putAll(x, "1>a");
        is("5 burnt letters count", x.read(), TOO_MANY);
    }

    // Promise 6
    private static void burn() {
        CensoredThreads x = Due.withLetters("0>a,1>b,2>c,3>d");
        is("6 burn", x.burn(1), 0);
        letters("6 burnt", x, 1, 1, 0, 2, NONE, 0, NONE, 0, 0, NONE, NONE, 1);
        is("6 the next moves up", x.letter(2, 3), 1);
        is("6 the last moves up", x.letter(3, 3), 2);
        is("6 row", x.count(8), 3);
        is("6 burn again", x.burn(1), NOT_POSSIBLE);
        x.set(READS, 1);
        x.pass(1);
        is("6 burn one that has come", x.burn(0), NOT_POSSIBLE);
        is("6 burn after a week", x.burn(3), 1);
        is("6 the thread is free at once", x.count(13), 1);
        for (int wrong : new int[] {-1, 4, 40, LOW, HIGH}) {
            is("6 burn " + wrong, x.burn(wrong), NO_SUCH);
        }
        CensoredThreads y = Due.withLetters("0>a,0<b,0>c");
        y.burn(0);
        is("6 the next of the thread may go", y.why(1), 0);
        is("6 the letter ahead stays the same", y.letter(1, 9), 0);
    }

    // Promise 7
    private static void passInTurn() {
        CensoredThreads x = Due.withLetters("0>a,1>b,2>c,3>d,4<e,0<f");
        is("7 three of the one row, one of the other", x.pass(1), 4);
        is("7 the fourth waits", x.letter(3, 2), 0);
        is("7 its place", x.letter(3, 3), 0);
        is("7 the answer waits", x.letter(5, 2), 0);
        is("7 the rest", x.pass(1), 2);
        letters("7 the fourth", x, 3, 3, 0, 1, NONE, 0, 2, 0, 0, 1, NONE, 1);
        letters("7 the answer", x, 5, 0, 1, 1, NONE, 0, 2, 0, 0, 2, 0, 1);
        is("7 nothing left", x.pass(52), 0);
        is("7 weeks", x.count(3), 54);
    }

    private static void passTurnsBack() {
        // The censor 0 reads the row 0 in week 0, the censor 1 in week 1.
        CensoredThreads x = Due.withLetters("0>aabc,1>aaa,2>b,3>aaaa,4>c");
        x.set(READS, 4);
        x.strike(0, 0);
        x.strike(1, 0);
        x.strike(2, 0);
        is("7 two at most struck", x.pass(1), 2);
        letters("7 struck", x, 0, 0, 0, 1, NONE, 0, 1, 2, 0, 0, NONE, 4);
        is("7 word struck", x.word(0, 0), '*');
        is("7 like word struck", x.word(0, 1), '*');
        is("7 word left", x.word(0, 2), 'b');
        letters("7 turned back", x, 1, 1, 0, 0, 1, 0, NONE, 0, 1, NONE, NONE, 3);
        letters("7 turned back, too", x, 3, 3, 0, 0, 2, 0, NONE, 0, 1, NONE, NONE, 4);
        letters("7 not read moves up", x, 4, 4, 0, 0, 0, 0, NONE, 0, 0, NONE, NONE, 1);
        is("7 the second week", x.pass(1), 1);
        letters("7 burnt", x, 1, 1, 0, 2, NONE, 0, NONE, 0, 2, NONE, NONE, 3);
        is("7 unchanged word", x.word(1, 0), 'a');
        censors("7 first", x, 0, 1, 2, 4, 2, 2);
        censors("7 second", x, 1, 1, 2, 3, 0, 2);
        is("7 burnt ones", x.count(7), 2);
        // TURNS that is lowered later: once turned back, it is above it then.
        CensoredThreads y = Due.withLetters("0>aaa");
        y.set(TURNS, 5);
        for (int c = 0; c < 4; c++) {
            y.strike(c, 0);
        }
        y.pass(3);
        is("7 three times", y.letter(0, 7), 3);
        is("7 still waits", y.letter(0, 2), 0);
        y.set(TURNS, 1);
        y.pass(1);
        is("7 four times", y.letter(0, 7), 4);
        is("7 burnt then", y.letter(0, 2), 2);
    }

    private static void passWaitsForTheLetterAhead() {
        CensoredThreads x = Due.withLetters("0>a,0>b,1>c,2>d,0<e");
        // Those passed over are not read, so that three others are.
        is("7 passed over", x.pass(1), 3);
        is("7 one of the thread a week", x.pass(1), 1);
        is("7 the other prison then", x.pass(1), 1);
        is("7 delay of the third", x.letter(4, 5), 3);
        // A letter that is burnt in the week was waiting when the week began.
        CensoredThreads y = Due.withLetters("0>a,0<b,0>c");
        y.set(LIMIT, 0);
        y.set(TURNS, 1);
        y.strike(0, 0);
        is("7 burnt, and none comes", y.pass(1), 0);
        is("7 burnt", y.letter(0, 2), 2);
        is("7 the answer waits", y.letter(1, 2), 0);
        is("7 the answer comes", y.pass(1), 1);
        // An answer that the prison 0 sends to a letter of the prison 1.
        CensoredThreads z = Due.withLetters("3<a,3>b");
        is("7 the letter ahead, of the other prison", z.pass(1), 1);
        is("7 the letter behind it", z.letter(1, 2), 0);
    }

    private static void passRefuses() {
        CensoredThreads x = new CensoredThreads();
        for (int wrong : new int[] {0, 53, -1, LOW, HIGH}) {
            is("7 pass " + wrong, x.pass(wrong), BAD_VALUE);
        }
        for (int i = 0; i < 192; i++) {
            x.pass(52);
        }
        is("7 weeks", x.count(3), 9984);
        is("7 too many", x.pass(16), TOO_MANY);
        is("7 bad value first", x.pass(53), BAD_VALUE);
        is("7 weeks stay", x.count(3), 9984);
        is("7 up to 9999", x.pass(15), 0);
        is("7 at 9999", x.count(3), 9999);
        is("7 none above", x.pass(1), TOO_MANY);
        Due.putAll(x, "0>a");
        x.read();
        is("10 why at the end", x.why(0), 0);
        is("14 untilCome at the end", x.untilCome(0), 1);
        is("15 ifPassed at the end", x.ifPassed(100, 0), 1);
    }

    // Promise 8
    private static void letter() {
        CensoredThreads x = Due.withLetters("2>abc", "2<dd,1>a,2>q");
        letters("8 answer", x, 1, 2, 1, 0, 0, 0, NONE, 0, 0, NONE, 0, 2);
        letters("8 another thread", x, 2, 1, 0, 0, 1, 0, NONE, 0, 0, NONE, NONE, 1);
        letters("8 third of the thread", x, 3, 2, 0, 0, 2, 0, NONE, 0, 0, NONE, 1, 1);
        x.strike(0, 1);
        x.pass(1);
        letters("8 come", x, 0, 2, 0, 1, NONE, 0, 1, 1, 0, 0, NONE, 3);
        for (int wrong : new int[] {-1, 11, LOW, HIGH}) {
            is("8 letter(0, " + wrong + ")", x.letter(0, wrong), BAD_VALUE);
        }
        for (int wrong : new int[] {-1, 4, 40, LOW, HIGH}) {
            is("8 letter(" + wrong + ", 0)", x.letter(wrong, 0), NO_SUCH);
            is("8 letter(" + wrong + ", 11)", x.letter(wrong, 11), NO_SUCH);
        }
    }

    // Promise 9
    private static void word() {
        CensoredThreads x = Due.withLetters("0>abcdefgz");
        x.strike(0, 0);
        x.strike(0, 25);
        for (int place = 0; place < 7; place++) {
            is("9 word " + place, x.word(0, place), 'a' + place);
        }
        is("9 last word", x.word(0, 7), 'z');
        x.pass(1);
        is("9 struck", x.word(0, 0), '*');
        is("9 not struck", x.word(0, 1), 'b');
        is("9 last struck", x.word(0, 7), '*');
        x.strike(0, 0);
        is("9 stays struck", x.word(0, 0), '*');
        x.strike(0, 1);
        is("9 is not struck later", x.word(0, 1), 'b');
        for (int wrong : new int[] {-1, 8, LOW, HIGH}) {
            is("9 place " + wrong, x.word(0, wrong), NO_SUCH);
        }
        for (int wrong : new int[] {-1, 1, LOW, HIGH}) {
            is("9 letter " + wrong, x.word(wrong, 0), NO_SUCH);
        }
        CensoredThreads y = Due.withLetters("0>ab");
        is("9 second place", y.word(0, 1), 'b');
        is("9 behind the last place", y.word(0, 2), NO_SUCH);
    }

    // Promise 10
    private static void why() {
        CensoredThreads x = Due.withLetters("0>a,0>a,1>aaa,2>b,3>c,4>aaa,1<a,2<a");
        x.strike(0, 0);
        is("10 it comes", x.why(0), 0);
        is("10 a letter ahead waits", x.why(1), 2);
        is("10 turned back", x.why(2), 4);
        is("10 the third that is read", x.why(3), 0);
        is("10 three are read ahead", x.why(4), 3);
        is("10 three are read ahead of it, too", x.why(5), 3);
        is("10 the answer waits", x.why(6), 2);
        x.set(TURNS, 1);
        is("10 burnt", x.why(2), 5);
        x.set(READS, 1);
        is("10 one is read ahead", x.why(2), 3);
        is("10 the letter ahead first, before READS", x.why(1), 2);
        x.pass(1);
        is("10 has come", x.why(0), 1);
        x.burn(5);
        is("10 is burnt", x.why(5), 1);
        for (int wrong : new int[] {-1, 8, LOW, HIGH}) {
            is("10 why(" + wrong + ")", x.why(wrong), NO_SUCH);
        }
        // The censor of the other prison: 1 in the week 0.
        CensoredThreads y = Due.withLetters("0<aaa");
        y.strike(0, 0);
        is("10 another censor", y.why(0), 0);
        y.strike(1, 0);
        is("10 its censor", y.why(0), 4);
        y.set(LIMIT, 3);
        is("10 up to LIMIT", y.why(0), 0);
    }

    // Promise 11
    private static void censor() {
        CensoredThreads x = Due.withLetters("0>ab,1>aaa,2<c,3<ab");
        x.strike(0, 0);
        x.strike(1, 2);
        x.pass(1);
        censors("11 of the prison 0", x, 0, 1, 2, 2, 1, 1);
        censors("11 of the prison 1", x, 1, 4, 2, 2, 1, 0);
        censors("11 not on shift", x, 2, 0, 2, 0, 0, 0);
        x.trade(0, 1);
        x.trade(0, 3);
        is("11 shifts of 1", x.censor(1, 1), 2);
        x.undo();
        x.undo();
        x.set(TURNS, 1);
        x.strike(1, 0);
        x.pass(1);
        censors("11 burnt counts", x, 1, 5, 2, 3, 1, 1);
        for (int wrong : new int[] {-1, 4, LOW, HIGH}) {
            is("11 censor(" + wrong + ", 0)", x.censor(wrong, 0), NO_SUCH);
            is("11 censor(" + wrong + ", 5)", x.censor(wrong, 5), NO_SUCH);
        }
        for (int wrong : new int[] {-1, 5, LOW, HIGH}) {
            is("11 censor(0, " + wrong + ")", x.censor(0, wrong), BAD_VALUE);
        }
    }

    // Promise 12
    private static void onShift() {
        CensoredThreads x = new CensoredThreads();
        is("12 week 9999", x.onShift(9999, 0), 3);
        is("12 week 9999, prison 1", x.onShift(9999, 1), 0);
        is("12 week 9998", x.onShift(9998, 1), 3);
        x.trade(6, 0);
        is("12 after a trade", x.onShift(9999, 0), 0);
        is("12 after a trade, week 8", x.onShift(8, 0), 3);
        for (int wrong : new int[] {-1, 2, LOW, HIGH}) {
            is("12 prison " + wrong, x.onShift(0, wrong), NO_SUCH);
            is("12 prison " + wrong + " first", x.onShift(-1, wrong), NO_SUCH);
        }
        for (int wrong : new int[] {-1, 10000, LOW, HIGH}) {
            is("12 week " + wrong, x.onShift(wrong, 0), BAD_VALUE);
        }
    }

    // Promise 13
    private static void count() {
        CensoredThreads x = Due.withLetters("0>ab,0<c,1>aab,2<d");
        x.set(READS, 2);
        x.strike(0, 0);
        counts("13 written", x, 2, 2, 2, 0, 4, 4, 0, 0, 2, 2, 0, 0, 0, 3, 0, 3);
        x.pass(1);
        Due.putAll(x, "3>");
        counts("13 a week", x, 2, 2, 2, 1, 4, 1, 3, 0, 0, 1, 3, 1, 3, 1, 2, 4);
        x.pass(2);
        counts("13 three weeks", x, 2, 2, 2, 3, 4, 0, 4, 0, 0, 0, 5, 2, 3, 0, 2, 4);
        CensoredThreads y = Due.withLetters("0>a,0>a,1<b");
        y.burn(0);
        counts("13 burnt", y, 3, 2, 2, 0, 3, 2, 0, 1, 1, 1, 0, 0, 0, 2, 0, 2);
        for (int wrong : new int[] {-1, 16, LOW, HIGH}) {
            is("13 count(" + wrong + ")", x.count(wrong), BAD_VALUE);
        }
    }

    // Promise 14
    private static void untilCome() {
        CensoredThreads x = Due.withLetters("0>aaa,0<b,1>c,1>d");
        x.strike(0, 0);
        is("14 turned back once", x.untilCome(0), 2);
        is("14 the answer", x.untilCome(1), 3);
        is("14 at once", x.untilCome(2), 1);
        is("14 the second", x.untilCome(3), 2);
        x.strike(1, 0);
        is("14 it is burnt", x.untilCome(0), NONE);
        is("14 the answer still comes", x.untilCome(1), 3);
        x.pass(1);
        is("14 has come", x.untilCome(2), 0);
        is("14 one less", x.untilCome(1), 2);
        x.burn(0);
        is("14 is burnt", x.untilCome(0), NONE);
        is("14 nothing ahead any more", x.untilCome(1), 1);
        for (int wrong : new int[] {-1, 4, LOW, HIGH}) {
            is("14 untilCome(" + wrong + ")", x.untilCome(wrong), NO_SUCH);
        }
    }

    private static void untilComeWithinHundred() {
        // Twenty letters of a thread, five weeks each till they are burnt: the letter n is read first in the week 5n.
        CensoredThreads x = Due.withLetters("0>a,0>a,0>a,0>a,0>a,0>a,0>a,0>a,0>a,0>a", "0>a,0>a,0>a,0>a,0>a,0>a,0>a,0>a,0>a,0>b,0>b");
        x.set(LIMIT, 0);
        x.set(TURNS, 5);
        for (int c = 0; c < 4; c++) {
            x.strike(c, 0);
        }
        // Nineteen letters "a" are burnt in 95 weeks; the two "b" come in the next two.
        is("14 behind 96 weeks", x.untilCome(19), 96);
        is("14 behind 97 weeks", x.untilCome(20), 97);
        Due.putAll(x, "0>b,0>b,0>b,0>b");
        x.read();
        is("14 behind 100 weeks", x.untilCome(23), 100);
        is("14 behind 101 weeks", x.untilCome(24), NONE);
        x.pass(1);
        is("14 a week later", x.untilCome(24), 100);
    }

    // Promise 15
    private static void ifPassed() {
        CensoredThreads x = Due.withLetters("0>aaa,0<b,1>cc,2<bb");
        x.strike(0, 0);
        x.strike(1, 0);
        x.strike(0, 2);
        x.strike(1, 1);
        // Week 0: the censors 0 and 1; week 1: 1 and 2; week 2: 2 and 3.
        is("15 come in 1", x.ifPassed(1, 0), 2);
        is("15 burnt in 1", x.ifPassed(1, 1), 0);
        is("15 struck in 1", x.ifPassed(1, 2), 4);
        is("15 come in 2", x.ifPassed(2, 0), 2);
        is("15 burnt in 2", x.ifPassed(2, 1), 1);
        is("15 come in 3", x.ifPassed(3, 0), 3);
        is("15 come in 100", x.ifPassed(100, 0), 3);
        is("15 burnt in 100", x.ifPassed(100, 1), 1);
        is("15 struck in 100", x.ifPassed(100, 2), 4);
        x.pass(2);
        is("15 what came before is not counted", x.ifPassed(1, 0), 1);
        is("15 nor what was burnt", x.ifPassed(1, 1), 0);
        is("15 nor what was struck", x.ifPassed(1, 2), 0);
        for (int wrong : new int[] {0, 101, -1, LOW, HIGH}) {
            is("15 ifPassed(" + wrong + ", 0)", x.ifPassed(wrong, 0), BAD_VALUE);
        }
        for (int wrong : new int[] {-1, 3, LOW, HIGH}) {
            is("15 ifPassed(1, " + wrong + ")", x.ifPassed(1, wrong), BAD_VALUE);
        }
    }

    // Promise 16
    private static void bestTrade() {
        CensoredThreads x = Due.withLetters("0>aaa");
        x.set(TURNS, 1);
        x.strike(0, 0);
        // The week 0 of the prison 0 (shift 0) must have another censor than 0: the shift 1 is the lowest with one.
        is("16 best", x.bestTrade(), 1);
        x.strike(1, 0);
        // Of the shifts 1 and 2 the censor is 1, who strikes now, too; the shift 3 has the censor 2.
        is("16 the next", x.bestTrade(), 3);
        x.strike(2, 0);
        is("16 the censor 3", x.bestTrade(), 5);
        x.strike(3, 0);
        is("16 all strike", x.bestTrade(), NONE);
        is("16 none without letters", new CensoredThreads().bestTrade(), NONE);
        // The prison 1 (shift 1, the censor 1): the lowest first shift is 0.
        CensoredThreads y = Due.withLetters("0<aaa");
        y.set(TURNS, 1);
        y.strike(1, 0);
        is("16 the other prison", y.bestTrade(), 1);
        y.strike(0, 0);
        is("16 the first shift above 0", y.bestTrade(), 8 + 3);
        // In the week 5 the shifts 2 and 3 of the roster come first.
        CensoredThreads z = new CensoredThreads();
        z.pass(5);
        Due.putAll(z, "0>aaa");
        z.read();
        z.set(TURNS, 1);
        z.strike(1, 0);
        is("16 in the week 5", z.bestTrade(), 2);
    }

    private static void bestTradeOfSeveral() {
        // The letter "aaa" comes with shift 0 traded away, and "bbb" of the prison 1 with the shift 1 traded;
        // the censor 0 strikes a, the censor 1 strikes b: trading 0 and 1 lets both come.
        CensoredThreads x = Due.withLetters("0>aaa,1<bbb");
        x.set(TURNS, 1);
        x.strike(0, 0);
        x.strike(1, 1);
        is("16 both", x.bestTrade(), 1);
        // If the censor 1 strikes a, and the censor 0 strikes b: with the shift 3 (censor 2) only one comes.
        x.strike(0, 1);
        x.strike(1, 0);
        is("16 one is the most", x.bestTrade(), 3);
        // Only in the weeks 0 to 3: a letter that would come in the week 4 does not count.
        CensoredThreads y = Due.withLetters("0>b,0>b,0>b,0>b,0>aaa");
        y.set(TURNS, 1);
        y.strike(0, 0);
        is("16 the next 4 weeks alone", y.bestTrade(), NONE);
        y.pass(1);
        // In the weeks 1 to 4 the letter 4 is read in week 4 by the censor of the shift 0.
        is("16 a week later", y.bestTrade(), 1);
    }

    // Promise 17
    private static void leastLimit() {
        CensoredThreads x = Due.withLetters("0>aaaaaaaa");
        is("17 none strikes", x.leastLimit(), 0);
        x.strike(0, 0);
        is("17 all eight", x.leastLimit(), 8);
        x.trade(0, 1);
        is("17 another censor", x.leastLimit(), 0);
        x.undo();
        x.set(LIMIT, 8);
        is("17 whatever LIMIT is", x.leastLimit(), 8);
        x.burn(0);
        is("17 none waits", x.leastLimit(), 0);
        // With LIMIT 1 the letter 1 comes in week 1, read by the censor 1.
        CensoredThreads y = Due.withLetters("0>abc,0>bbb");
        y.strike(0, 0);
        y.strike(1, 1);
        y.strike(1, 0);
        is("17 the second letter's censor", y.leastLimit(), 3);
        y.strike(1, 1);
        is("17 the first letter's", y.leastLimit(), 1);
        y.set(TURNS, 1);
        is("17 burnt is turned back, too", y.leastLimit(), 1);
    }

    // Promise 18
    private static void put() {
        CensoredThreads x = new CensoredThreads();
        is("18 one", x.put('a'), 1);
        is("18 the last is lowest", x.put(Due.number("bcdefghi")), 9);
        is("18 lowest code", x.put(33), 10);
        is("18 highest code", x.put(126), 11);
        is("18 none", x.put(0L), BAD_VALUE);
        is("18 space", x.put(32), BAD_VALUE);
        is("18 delete", x.put(127), BAD_VALUE);
        is("18 0 at the end", x.put('a' << 8), BAD_VALUE);
        is("18 0 in the middle", x.put('a' << 16 | 'b'), BAD_VALUE);
        is("18 a bit above 0", x.put(1L << 63 | 'b'), BAD_VALUE);
        is("18 all bits", x.put(-1L), BAD_VALUE);
        is("18 lowest long", x.put(Long.MIN_VALUE), BAD_VALUE);
        is("18 highest long", x.put(Long.MAX_VALUE), BAD_VALUE);
        is("18 a high first code", x.put(Due.number("aaaaaaa") | 200L << 56), BAD_VALUE);
        is("18 a low first code", x.put(Due.number("aaaaaaa") | 31L << 56), BAD_VALUE);
        is("18 refused", x.count(14), 11);
        x.wipe();
        for (int i = 1; i <= 7; i++) {
            is("18 eight", x.put(Due.number("aaaaaaaa")), 8 * i);
        }
        is("18 beyond 60", x.put(Due.number("aaaaa")), TOO_MANY);
        is("18 bad value first", x.put(Due.number("aaaa ")), BAD_VALUE);
        is("18 up to 60", x.put(Due.number("aaaa")), 60);
        is("18 full", x.put('a'), TOO_MANY);
        x.wipe();
        // The order of the characters shows in what is read.
        x.put(Due.number("1<hello"));
        x.put(Due.number("z"));
        is("18 read", x.read(), 1);
        int place = 0;
        for (char word : "helloz".toCharArray()) {
            is("18 word", x.word(0, place++), word);
        }
        is("18 nothing behind", x.word(0, place), NO_SUCH);
    }

    // Promise 19
    private static void wipe() {
        CensoredThreads x = new CensoredThreads();
        is("19 empty", x.wipe(), 0);
        Due.putAll(x, "0>abcdefgh,");
        is("19 wipe", x.wipe(), 11);
        is("19 empty then", x.count(14), 0);
        is("19 wiped", x.wipe(), 0);
        is("19 the fault of an empty pad", x.fault(), 0);
        is("19 no change", x.count(15), 0);
    }

    // Promise 20
    private static void fault() {
        fault("", 0);
        fault("5", 0);
        fault("/", 0);
        fault("a", 0);
        fault(">", 0);
        fault(",", 0);
        fault("0", 1);
        fault("4", 1);
        fault("0a", 1);
        fault("00", 1);
        fault("0=", 1);
        fault("0>", 2);
        fault("0<", 2);
        fault("0>,", 2);
        fault("0>A", 2);
        fault("0>`", 2);
        fault("0>{", 2);
        fault("0><", 2);
        fault("0>a", NONE);
        fault("0>z", NONE);
        fault("4<abcdefgh", NONE);
        fault("4<abcdefghi", 10);
        fault("4<abcdefgh,", 11);
        fault("0>a,", 4);
        fault("0>a,,", 4);
        fault("0>a,0>b", NONE);
        fault("0>a,5>b", 4);
        fault("0>a,0b", 5);
        fault("0>a0", 3);
        fault("0>a>", 3);
        fault("0>a;0>b", 3);
        fault("0>a,0>b,0>c,0>d,0>e,0>f,0>g,0>h,0>i,0>j,0>k,0>l,0>m,0>n,0>op", NONE);
        fault("5>a,", 0);
    }

    private static void fault(String text, int want) {
        CensoredThreads x = new CensoredThreads();
        Due.putAll(x, text);
        is("20 fault of '" + text + "'", x.fault(), want);
        is("20 the pad stays, '" + text + "'", x.count(14), text.length());
    }

    // Promise 21
    private static void undo() {
        CensoredThreads x = new CensoredThreads();
        is("21 nothing", x.undo(), NOT_POSSIBLE);
        for (int value = 4; value <= 9; value++) {
            x.set(READS, value);
        }
        is("21 four at most", x.count(15), 4);
        for (int left = 3; left >= 0; left--) {
            is("21 undo", x.undo(), left);
            is("21 READS", x.count(0), 5 + left);
        }
        is("21 no more", x.undo(), NOT_POSSIBLE);
        is("21 the oldest are dropped", x.count(0), 5);
        x.set(READS, 5);
        is("21 recorded if nothing is different", x.count(15), 1);
        Due.putAll(x, "0>abc");
        x.read();
        Due.putAll(x, "1<");
        is("21 undo of read", x.undo(), 1);
        is("21 no letters", x.count(4), 0);
        is("21 the pad is not undone", x.count(14), 2);
        x.wipe();
        x.save(0);
        x.set(LIMIT, 5);
        x.save(0);
        x.undo();
        is("21 undone", x.count(1), 2);
        x.restore(0);
        is("21 the slots are not undone", x.count(1), 5);
    }
}
