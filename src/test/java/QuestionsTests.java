/** The sentences of the promises 8 to 13 that name an edge. */
public final class QuestionsTests extends Sentences {
    public static void main(String[] args) {
        letterNumbers();
        letterWhat();
        letterPlace();
        letterDelay();
        letterCensor();
        letterAhead();
        letterRefuses();
        wordCodes();
        wordRefuses();
        whyComes();
        whyNotWaiting();
        whyAhead();
        whyReads();
        whyTurnedBack();
        whyBurnt();
        whyRefuses();
        censorNumbers();
        censorTurned();
        censorRefuses();
        shiftWeeks();
        shiftRefuses();
        countsOfLetters();
        countDelays();
        countStruck();
        countThreads();
        countPadAndPast();
        countRefuses();
        end("QuestionsTests");
    }

    private static void letterNumbers() {
        says("0 its thread, 1 the prison from which it comes, 2 where it is: 0 waiting, 1 come, 2 burnt");
        CensoredThreads x = written("0>a,4<bbbb,3>c");
        x.strike(1, 1);
        x.set(TURNS, 1);
        x.set(READS, 1);
        x.pass(1);
        int[][] due = {{0, 0, COME}, {4, 1, BURNT}, {3, 0, WAITING}};
        for (int letter = 0; letter < 3; letter++) {
            for (int what = 0; what < 3; what++) {
                is("letter(" + letter + ", " + what + ")", x.letter(letter, what), due[letter][what]);
            }
        }
    }

    private static void letterWhat() {
        says("6 words that were struck in it, 7 how often it was turned back");
        CensoredThreads x = written("0>aabcdefg,1>b,2>aaaaaaaa");
        x.set(TURNS, 5);
        x.strike(0, 0);
        is("none yet", x.letter(0, STRUCK), 0);
        is("never yet", x.letter(2, TURNED), 0);
        x.pass(1);
        is("two", x.letter(0, STRUCK), 2);
        is("none", x.letter(1, STRUCK), 0);
        is("never", x.letter(0, TURNED), 0);
        is("once", x.letter(2, TURNED), 1);
        x.set(LIMIT, 8);
        x.strike(1, 0);
        x.pass(1);
        is("all eight", x.letter(2, STRUCK), 8);
        is("still once", x.letter(2, TURNED), 1);
        says("10 how many words it has");
        is("eight", x.letter(2, WORDS), 8);
        is("one", x.letter(1, WORDS), 1);
    }

    private static void letterPlace() {
        says("3 its place in the row (NONE if it is not waiting)");
        CensoredThreads x = written("0>a,1>a,2>a,3>a,0<a");
        places("first places", x, 0, 1, 2, 3, 0);
        x.burn(2);
        places("one is burnt", x, 0, 1, NONE, 2, 0);
        x.set(READS, 2);
        x.pass(1);
        places("two have come", x, NONE, NONE, NONE, 0, 0);
    }

    private static void letterDelay() {
        says("4 the week in which it was written, 5 its delay (NONE if it has not come)");
        CensoredThreads x = written("0>a");
        is("written in the week 0", x.letter(0, WRITTEN), 0);
        is("waiting", x.letter(0, DELAY), NONE);
        x.pass(1);
        is("come", x.letter(0, DELAY), 1);
        write(x, "0>b");
        is("written in the week 1", x.letter(1, WRITTEN), 1);
        x.burn(1);
        is("burnt", x.letter(1, DELAY), NONE);
        is("written when it is burnt", x.letter(1, WRITTEN), 1);
    }

    private static void letterCensor() {
        says("8 the censor who let it through (NONE)");
        CensoredThreads x = written("0>aaa,0<b,1<c");
        x.strike(0, 0);
        is("waiting", x.letter(0, BY), NONE);
        x.pass(1);
        is("turned back", x.letter(0, BY), NONE);
        is("by the censor 1", x.letter(2, BY), 1);
        x.pass(1);
        is("by the second one who read it", x.letter(0, BY), 1);
        x.trade(4, 5);
        x.pass(1);
        is("by the one of the other shift", x.letter(1, BY), 2);
        x.trade(2, 0);
        is("a later trade changes nothing", x.letter(0, BY), 1);
        CensoredThreads y = written("0>a,1>bbb");
        y.strike(0, 1);
        y.set(TURNS, 1);
        y.pass(1);
        is("the censor 0", y.letter(0, BY), 0);
        is("burnt", y.letter(1, BY), NONE);
    }

    private static void letterAhead() {
        says("9 the letter ahead of it in its thread (NONE)");
        CensoredThreads x = written("0>a,1>b,0<c");
        is("the first of its thread", x.letter(0, AHEAD), NONE);
        is("the first of another", x.letter(1, AHEAD), NONE);
        is("of the other prison", x.letter(2, AHEAD), 0);
        CensoredThreads full = fresh();
        writeMany(full, 40, "4<a");
        is("of the last one", full.letter(39, AHEAD), 38);
        CensoredThreads far = written("3>z");
        writeMany(far, 38, "4<a");
        write(far, "3<z");
        is("far ahead", far.letter(39, AHEAD), 0);
    }

    private static void letterRefuses() {
        says("Returns the number; NO_SUCH if there is no such letter; BAD_VALUE if what is out of range.");
        is("no letters", fresh().letter(0, 0), NO_SUCH);
        CensoredThreads x = written("0>a,1>b");
        for (int wrong : new int[] {-1, 2, 39, 40, 41, LOW, HIGH}) {
            for (int what = -1; what <= 11; what++) {
                is("letter(" + wrong + ", " + what + ")", x.letter(wrong, what), NO_SUCH);
            }
        }
        for (int wrong : new int[] {-1, 11, 12, LOW, HIGH}) {
            is("letter(0, " + wrong + ")", x.letter(0, wrong), BAD_VALUE);
            is("letter(1, " + wrong + ")", x.letter(1, wrong), BAD_VALUE);
        }
        is("the lowest of both", x.letter(0, 0), 0);
        is("the highest of both", x.letter(1, 10), 1);
        CensoredThreads undone = written("0>a");
        undone.undo();
        is("a letter that was undone", undone.letter(0, 0), NO_SUCH);
        CensoredThreads full = fresh();
        writeMany(full, 40, "0>a");
        is("the letter 39", full.letter(39, 10), 1);
        is("the letter 40", full.letter(40, 10), NO_SUCH);
    }

    private static void wordCodes() {
        says("Returns the code of the word (a to z), or of \"*\" if it is struck");
        CensoredThreads x = written("0>abcdefgz,1<z");
        x.strike(0, 0);
        x.strike(0, 25);
        int[] before = {97, 98, 99, 100, 101, 102, 103, 122};
        int[] behind = {42, 98, 99, 100, 101, 102, 103, 42};
        for (int place = 0; place < 8; place++) {
            is("not struck while it waits, " + place, x.word(0, place), before[place]);
        }
        x.pass(1);
        for (int place = 0; place < 8; place++) {
            is("come, " + place, x.word(0, place), behind[place]);
        }
        is("the other censor's", x.word(1, 0), 122);
    }

    private static void wordRefuses() {
        says("NO_SUCH if there is no such letter, or no such place.");
        is("no letters", fresh().word(0, 0), NO_SUCH);
        CensoredThreads x = written("0>a,1>abcdefgh,2>abc");
        int[] lengths = {1, 8, 3};
        for (int letter = 0; letter < 3; letter++) {
            is("the last place of " + letter, x.word(letter, lengths[letter] - 1), 'a' + lengths[letter] - 1);
            for (int wrong : new int[] {-1, lengths[letter], lengths[letter] + 1, 8, 32, 64, LOW, HIGH}) {
                is("word(" + letter + ", " + wrong + ")", x.word(letter, wrong), NO_SUCH);
            }
        }
        for (int wrong : new int[] {-1, 3, 40, LOW, HIGH}) {
            is("word(" + wrong + ", 0)", x.word(wrong, 0), NO_SUCH);
            is("word(" + wrong + ", 9)", x.word(wrong, 9), NO_SUCH);
        }
    }

    private static void whyComes() {
        says("Returns 0 it comes");
        CensoredThreads x = written("0>aab,1<a");
        x.strike(0, 0);
        x.strike(1, 0);
        whys("up to LIMIT", x, 0, 0);
        is("as many come", x.pass(1), 2);
        passUpTo(x, 9999);
        write(x, "2>a");
        is("in the week 9999", x.why(2), 0);
    }

    private static void whyNotWaiting() {
        says("1 it is not waiting");
        CensoredThreads x = written("0>a,1>b,2>ccc");
        x.strike(0, 2);
        x.set(TURNS, 1);
        x.burn(1);
        whys("burnt by hand", x, 0, 1, 5);
        x.pass(1);
        whys("come, and burnt by a censor", x, 1, 1, 1);
    }

    private static void whyAhead() {
        says("2 a letter ahead of it in its thread is waiting");
        CensoredThreads x = written("0>a,1>a,2>a,3>aaa,0>b,3>b,4>b");
        allStrike(x, 'a');
        whys("also if READS letters are read ahead of it", x, 0, 0, 0, 3, 2, 2, 3);
        x.pass(1);
        whys("the one ahead has come", x, 1, 1, 1, 4, 0, 2, 0);
        x.burn(3);
        whys("the one ahead is burnt", x, 1, 1, 1, 1, 0, 0, 0);
    }

    private static void whyReads() {
        says("3 READS letters are read ahead of it");
        CensoredThreads x = written("0>a,1>a,2>a,3>a,4>a,0<b");
        for (int reads = 1; reads <= 9; reads++) {
            x.set(READS, reads);
            for (int letter = 0; letter < 5; letter++) {
                is("READS " + reads + ", why(" + letter + ")", x.why(letter), letter < reads ? 0 : 3);
            }
        }
        CensoredThreads y = written("0>ccc,1>ccc,2>ccc,3>ccc");
        y.strike(0, 2);
        whys("those that are turned back are read", y, 4, 4, 4, 3);
        CensoredThreads z = written("0>a,0>a,0>a,0>a,1>a");
        z.set(READS, 2);
        whys("those that are passed over are not", z, 0, 2, 2, 2, 0);
    }

    private static void whyTurnedBack() {
        says("4 it is turned back, 5 it is burnt");
        CensoredThreads x = written("0>aaa");
        allStrike(x, 'a');
        for (int turns = 1; turns <= 5; turns++) {
            x.set(TURNS, turns);
            is("TURNS " + turns, x.why(0), turns == 1 ? 5 : 4);
        }
        x.pass(4);
        is("four times turned back of five", x.why(0), 5);
        x.set(LIMIT, 3);
        is("at most LIMIT", x.why(0), 0);
    }

    private static void whyBurnt() {
        says("Tells why a letter does not come this week.");
        CensoredThreads x = written("0>aaa,0<b,1>b,2>b,3>b,4<aaa");
        x.strike(0, 0);
        x.set(TURNS, 1);
        whys("this week", x, 5, 2, 0, 0, 3, 0);
        x.pass(1);
        int[] where = {BURNT, WAITING, COME, COME, WAITING, COME};
        for (int letter = 0; letter < 6; letter++) {
            is("what became of " + letter, x.letter(letter, WHERE), where[letter]);
        }
    }

    private static void whyRefuses() {
        says("5 it is burnt; NO_SUCH if there is no such letter.");
        is("no letters", fresh().why(0), NO_SUCH);
        CensoredThreads x = written("0>a,1>a");
        for (int wrong : new int[] {-1, 2, 40, LOW, HIGH}) {
            is("why(" + wrong + ")", x.why(wrong), NO_SUCH);
        }
    }

    private static void censorNumbers() {
        says("0 the words that are struck, as a set, 1 shifts of the roster, 2 letters read so far, 3 words struck so far");
        CensoredThreads x = written("0>aab,1>ccc,2<z");
        x.strike(0, 0);
        x.strike(0, 2);
        int[] before = {5, 2, 0, 0, 0};
        int[] behind = {5, 2, 2, 2, 1};
        for (int what = 0; what < 5; what++) {
            is("censor(0, " + what + ") before", x.censor(0, what), before[what]);
        }
        x.pass(1);
        for (int what = 0; what < 5; what++) {
            is("censor(0, " + what + ") behind", x.censor(0, what), behind[what]);
        }
        is("of the other prison", x.censor(1, LETTERS_READ), 1);
        is("with no shift in this week", x.censor(3, LETTERS_READ), 0);
        x.trade(0, 1);
        is("shifts stay two", x.censor(0, SHIFTS), 2);
        CensoredThreads y = written("0>a,1<b");
        y.trade(1, 7);
        y.pass(1);
        is("on both shifts of a week", y.censor(0, LETTERS_READ), 2);
    }

    private static void censorTurned() {
        says("4 letters turned back so far, those that were burnt for it counted");
        CensoredThreads x = written("0>aaa,1>bbb");
        x.strike(0, 0);
        x.strike(1, 0);
        x.pass(1);
        is("turned back", x.censor(0, LETTERS_TURNED), 1);
        x.pass(1);
        is("burnt for it", x.censor(1, LETTERS_TURNED), 1);
        is("read", x.censor(1, LETTERS_READ), 1);
        write(x, "2<b");
        x.burn(2);
        is("burnt by hand", x.censor(2, LETTERS_TURNED) + x.censor(3, LETTERS_TURNED), 0);
    }

    private static void censorRefuses() {
        says("Returns the number; NO_SUCH if there is no such censor; BAD_VALUE if what is out of range.");
        CensoredThreads x = fresh();
        for (int wrong : new int[] {-1, 4, 5, LOW, HIGH}) {
            for (int what = -1; what <= 5; what++) {
                is("censor(" + wrong + ", " + what + ")", x.censor(wrong, what), NO_SUCH);
            }
        }
        for (int wrong : new int[] {-1, 5, 6, LOW, HIGH}) {
            is("censor(0, " + wrong + ")", x.censor(0, wrong), BAD_VALUE);
            is("censor(3, " + wrong + ")", x.censor(3, wrong), BAD_VALUE);
        }
        is("the lowest of both", x.censor(0, 0), 0);
        is("the highest of both", x.censor(3, 4), 0);
    }

    private static void shiftWeeks() {
        says("0 to 9999 (not of the roster)");
        CensoredThreads x = fresh();
        for (int week : new int[] {0, 1, 2, 3, 4, 5, 7, 8, 52, 9996, 9997, 9998, 9999}) {
            is("onShift(" + week + ", 0)", x.onShift(week, 0), week % 4);
            is("onShift(" + week + ", 1)", x.onShift(week, 1), (week + 1) % 4);
        }
        x.pass(3);
        is("a week that is past", x.onShift(0, 1), 1);
        x.trade(6, 0);
        is("after a trade", x.onShift(9999, 0), 0);
        is("after a trade, the other", x.onShift(9996, 0), 3);
    }

    private static void shiftRefuses() {
        says("Returns the censor; NO_SUCH if there is no such prison; BAD_VALUE if week is out of range.");
        CensoredThreads x = fresh();
        for (int wrong : new int[] {-1, 2, 3, LOW, HIGH}) {
            for (int week : new int[] {0, 9999, -1, 10000}) {
                is("onShift(" + week + ", " + wrong + ")", x.onShift(week, wrong), NO_SUCH);
            }
        }
        for (int wrong : new int[] {-1, -4, 10000, 10004, LOW, HIGH}) {
            is("onShift(" + wrong + ", 0)", x.onShift(wrong, 0), BAD_VALUE);
            is("onShift(" + wrong + ", 1)", x.onShift(wrong, 1), BAD_VALUE);
        }
    }

    private static void countsOfLetters() {
        says("4 letters, 5 waiting ones, 6 those that have come, 7 burnt ones, 8 and 9 the letters in the row of the prison 0 and 1");
        CensoredThreads x = fresh();
        int[] none = {0, 0, 0, 0, 0, 0};
        int[] forty = {40, 40, 0, 0, 20, 20};
        int[] later = {40, 37, 2, 1, 18, 19};
        int[] end = {40, 0, 39, 1, 0, 0};
        countsAre("none", x, none);
        writeMany(x, 20, "0>a");
        writeMany(x, 20, "1<b");
        countsAre("forty", x, forty);
        x.burn(19);
        x.pass(1);
        countsAre("later", x, later);
        x.pass(52);
        countsAre("in the end", x, end);
    }

    private static void countsAre(String when, CensoredThreads x, int[] due) {
        for (int what = LETTERS; what <= ROW_1; what++) {
            is("count(" + what + "), " + when, x.count(what), due[what - LETTERS]);
        }
    }

    private static void countDelays() {
        says("10 all delays, together, 11 the longest delay (0 without any)");
        CensoredThreads x = written("0>a,0>a,0>a,1<b");
        is("none together", x.count(ALL_DELAYS), 0);
        is("without any", x.count(LONGEST_DELAY), 0);
        x.burn(3);
        is("without any, one burnt", x.count(LONGEST_DELAY), 0);
        x.pass(1);
        is("one", x.count(ALL_DELAYS), 1);
        is("the longest of one", x.count(LONGEST_DELAY), 1);
        x.pass(2);
        is("three", x.count(ALL_DELAYS), 6);
        is("the longest of three", x.count(LONGEST_DELAY), 3);
        write(x, "2>a");
        x.pass(1);
        is("a shorter one", x.count(ALL_DELAYS), 7);
        is("the longest stays", x.count(LONGEST_DELAY), 3);
        CensoredThreads full = fresh();
        writeMany(full, 40, "0>a");
        full.pass(40);
        is("forty", full.count(ALL_DELAYS), 820);
        is("the longest of forty", full.count(LONGEST_DELAY), 40);
    }

    private static void countStruck() {
        says("12 words that were struck in letters that have come");
        CensoredThreads x = written("0>aab,1>aaa,2>b");
        allStrike(x, 'a');
        is("none", x.count(ALL_STRUCK), 0);
        x.pass(1);
        is("two", x.count(ALL_STRUCK), 2);
        x.strike(2, 1);
        is("none by a strike alone", x.count(ALL_STRUCK), 2);
        x.pass(1);
        is("none in one that is burnt", x.count(ALL_STRUCK), 2);
        is("it is burnt", x.count(ALL_BURNT), 1);
        CensoredThreads full = fresh();
        for (int i = 0; i < 8; i++) {
            write(full, times(5, "0>aaaaaaaa"));
        }
        allStrike(full, 'a');
        full.set(LIMIT, 8);
        full.pass(40);
        is("forty letters of eight", full.count(ALL_STRUCK), 320);
    }

    private static void countThreads() {
        says("13 threads in which a letter waits");
        CensoredThreads x = fresh();
        is("none", x.count(WAITING_THREADS), 0);
        write(x, "0>a,0<b,0>c");
        is("one of three letters", x.count(WAITING_THREADS), 1);
        write(x, "1>a,2>a,3<a,4<a");
        is("five", x.count(WAITING_THREADS), 5);
        x.burn(6);
        is("four", x.count(WAITING_THREADS), 4);
        x.pass(1);
        is("one again", x.count(WAITING_THREADS), 1);
        x.pass(2);
        is("none again", x.count(WAITING_THREADS), 0);
    }

    private static void countPadAndPast() {
        says("14 the length of the pad, 15 how many changes can be undone");
        CensoredThreads x = fresh();
        is("an empty pad", x.count(PAD), 0);
        is("an empty history", x.count(PAST), 0);
        for (int signs = 1; signs <= 60; signs++) {
            x.put('a');
            is("signs", x.count(PAD), signs);
        }
        x.put('a');
        is("sixty at most", x.count(PAD), 60);
        for (int changes = 1; changes <= 6; changes++) {
            x.pass(1);
            is("behind " + changes + " changes", x.count(PAST), Math.min(changes, 4));
        }
        x.undo();
        is("one is undone", x.count(PAST), 3);
        says("0 to 2 the settings, 3 the weeks");
        is("the weeks", x.count(WEEKS), 5);
        is("the first setting", x.count(0), 3);
        is("the last setting", x.count(2), 2);
    }

    private static void countRefuses() {
        says("Returns the number; BAD_VALUE if what is out of range.");
        CensoredThreads x = fresh();
        for (int wrong : new int[] {-1, 16, 17, LOW, HIGH}) {
            is("count(" + wrong + ")", x.count(wrong), BAD_VALUE);
        }
        for (int what = 0; what <= 15; what++) {
            is("count(" + what + ") is taken", x.count(what) >= 0 ? 1 : 0, 1);
        }
    }
}
