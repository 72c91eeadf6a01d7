/** The sentences of the document's "Terms" that name an edge, but for those of texts. */
public final class TermsTests extends Sentences {
    public static void main(String[] args) {
        calls();
        numberedFromZero();
        reads();
        limit();
        turns();
        prisonsAndThreads();
        wordsOfALetter();
        numbersOfLetters();
        orderInAThread();
        endOfTheRow();
        whereLettersAre();
        censorsAndTheirSets();
        roster();
        weeksOfTheRoster();
        upToReads();
        passedOver();
        passedOverByTheThreadNotByTheRow();
        countedWords();
        atMostLimit();
        turnedBackUnchanged();
        turnedBackTurnsTimes();
        toTheEndOfTheRow();
        endOfTheWeek();
        delay();
        longDelay();
        end("TermsTests");
    }

    private static void calls() {
        says("An object is used for at most 512 calls after it has been made");
        CensoredThreads x = fresh();
        for (int call = 1; call <= 510; call++) {
            is("call " + call, x.set(LIMIT, call % 9), call == 1 ? 2 : (call - 1) % 9);
        }
        is("call 511", x.undo(), 3);
        is("call 512", x.count(LIMIT), 509 % 9);
    }

    private static void numberedFromZero() {
        says("Everything is numbered from 0.");
        CensoredThreads x = written("0>a");
        is("the first letter", x.letter(0, WORDS), 1);
        is("the second letter", x.letter(1, WORDS), NO_SUCH);
        is("the first place", x.word(0, 0), 'a');
        is("the second place", x.word(0, 1), NO_SUCH);
        is("the first censor", x.strike(0, 1), 1);
        is("the first word", x.strike(0, 0), 2);
        is("the first shift", x.trade(0, 1), 1);
        is("the first slot", x.save(0), 0);
        is("the third slot", x.save(2), BAD_VALUE);
    }

    private static void reads() {
        says("READS (1 to 9; 3): letters.");
        String five = "0>a,1>b,2>c,3>d,4>e";
        is("the first value", fresh().count(READS), 3);
        is("the first value reads three", written(five).pass(1), 3);
        for (int value = 1; value <= 9; value++) {
            CensoredThreads x = written(five);
            is("set to " + value, x.set(READS, value), 3);
            is("value " + value, x.count(READS), value);
            is("a week with " + value, x.pass(1), Math.min(value, 5));
        }
        CensoredThreads x = fresh();
        for (int wrong : new int[] {0, 10, -1, 11, LOW, HIGH}) {
            is("set to " + wrong, x.set(READS, wrong), BAD_VALUE);
        }
        is("the value stays", x.count(READS), 3);
    }

    private static void limit() {
        says("LIMIT (0 to 8; 2): words.");
        String[] letters = {"0>bbbbbbbb", "0>abbbbbbb", "0>aabbbbbb", "0>aaabbbbb", "0>aaaabbbb", "0>aaaaabbb", "0>aaaaaabb",
            "0>aaaaaaab", "0>aaaaaaaa"};
        is("the first value", fresh().count(LIMIT), 2);
        for (int value = 0; value <= 8; value++) {
            for (int struck = 0; struck <= 8; struck++) {
                CensoredThreads x = written(letters[struck]);
                is("set to " + value, x.set(LIMIT, value), 2);
                is("value " + value, x.count(LIMIT), value);
                x.strike(0, 0);
                is("LIMIT " + value + " with " + struck + " words", x.pass(1), struck <= value ? 1 : 0);
            }
        }
        CensoredThreads x = fresh();
        for (int wrong : new int[] {-1, 9, -2, 10, LOW, HIGH}) {
            is("set to " + wrong, x.set(LIMIT, wrong), BAD_VALUE);
        }
        is("the value stays", x.count(LIMIT), 2);
    }

    private static void turns() {
        says("TURNS (1 to 5; 2): turnings back.");
        is("the first value", fresh().count(TURNS), 2);
        for (int value = 1; value <= 5; value++) {
            CensoredThreads x = written("0>aaa");
            allStrike(x, 'a');
            is("set to " + value, x.set(TURNS, value), 2);
            is("value " + value, x.count(TURNS), value);
            for (int week = 1; week <= value; week++) {
                x.pass(1);
                is("TURNS " + value + ", week " + week, x.letter(0, WHERE), week == value ? BURNT : WAITING);
                is("TURNS " + value + ", turned in week " + week, x.letter(0, TURNED), week);
            }
        }
        CensoredThreads x = fresh();
        for (int wrong : new int[] {0, 6, -1, 7, LOW, HIGH}) {
            is("set to " + wrong, x.set(TURNS, wrong), BAD_VALUE);
        }
        is("the value stays", x.count(TURNS), 2);
    }

    private static void prisonsAndThreads() {
        says("There are two prisons, 0 and 1, and 5 threads, 0 to 4");
        CensoredThreads x = written("0>a,4<a,1>a,2>a,3>a");
        is("the lowest thread", x.letter(0, THREAD), 0);
        is("the highest thread", x.letter(1, THREAD), 4);
        is("prison 0", x.letter(0, PRISON), 0);
        is("prison 1", x.letter(1, PRISON), 1);
        is("threads that wait", x.count(WAITING_THREADS), 5);
        Due.putAll(x, "5>a");
        is("no thread 5", x.fault(), 0);
        x.wipe();
        Due.putAll(x, "/>a");
        is("no thread below 0", x.fault(), 0);
        is("prison 2", x.onShift(0, 2), NO_SUCH);
        is("prison -1", x.onShift(0, -1), NO_SUCH);
    }

    private static void wordsOfALetter() {
        says("and has 1 to 8 words, each a letter a to z");
        CensoredThreads x = written("0>a,1>abcdefgh,2<zyxwvut");
        is("one word", x.letter(0, WORDS), 1);
        is("eight words", x.letter(1, WORDS), 8);
        is("seven words", x.letter(2, WORDS), 7);
        is("the lowest word", x.word(1, 0), 'a');
        is("the eighth word", x.word(1, 7), 'h');
        is("the highest word", x.word(2, 0), 'z');
        String[] wrong = {"0>", "0>,", "0>abcdefghi", "0>`", "0>{", "0>A"};
        for (String text : wrong) {
            CensoredThreads y = fresh();
            is("not " + text, write(y, text), BAD_TEXT);
            is("no letter from " + text, y.count(LETTERS), 0);
        }
    }

    private static void numbersOfLetters() {
        says("Letters have numbers from 0 in the order in which they were written, 40 at most.");
        CensoredThreads x = fresh();
        for (int letter = 0; letter < 40; letter++) {
            String text = (char) ('0' + letter % 5) + (letter % 3 == 0 ? "<" : ">") + (char) ('a' + letter % 26);
            is("write " + text, write(x, text), letter + 1);
        }
        for (int letter = 0; letter < 40; letter++) {
            is("thread of " + letter, x.letter(letter, THREAD), letter % 5);
            is("prison of " + letter, x.letter(letter, PRISON), letter % 3 == 0 ? 1 : 0);
            is("word of " + letter, x.word(letter, 0), 'a' + letter % 26);
        }
        is("no letter 40", x.letter(40, THREAD), NO_SUCH);
        is("none beyond 40", write(x, "0>a"), TOO_MANY);
        is("40 stay", x.count(LETTERS), 40);
        CensoredThreads none = fresh();
        is("no letter 0 yet", none.letter(0, THREAD), NO_SUCH);
        is("no letters yet", none.count(LETTERS), 0);
    }

    private static void orderInAThread() {
        says("Letters of a thread, from both prisons, follow one another in the order in which they were written.");
        CensoredThreads x = written("2>a,2<b,1>c", "2<d,2>e");
        int[] ahead = {NONE, 0, NONE, 1, 3};
        for (int letter = 0; letter < 5; letter++) {
            is("ahead of " + letter, x.letter(letter, AHEAD), ahead[letter]);
        }
        for (int week = 1; week <= 4; week++) {
            x.pass(1);
            is("one of the thread a week, " + week, x.count(ALL_WAITING), 4 - week);
        }
        is("the first", x.letter(0, DELAY), 1);
        is("its answer", x.letter(1, DELAY), 2);
        is("the answer's second", x.letter(3, DELAY), 3);
        is("the last", x.letter(4, DELAY), 4);
        write(x, "2>f");
        is("ahead of one that is written when all have come", x.letter(5, AHEAD), 4);
    }

    private static void endOfTheRow() {
        says("A letter that is written stands at the end of the row of its prison.");
        CensoredThreads x = written("0>aaa,1<b,2>c", "3>d,4<e");
        places("each row has its own places", x, 0, 0, 1, 2, 1);
        CensoredThreads y = written("0>aaa");
        y.strike(0, 0);
        y.pass(1);
        write(y, "1>b");
        places("behind one that was turned back", y, 0, 1);
        CensoredThreads full = fresh();
        writeMany(full, 40, "0<a");
        is("the first of forty", full.letter(0, PLACE), 0);
        is("the last of forty", full.letter(39, PLACE), 39);
        is("the row of forty", full.count(ROW_1), 40);
        is("the other row", full.count(ROW_0), 0);
        full.pass(1);
        is("all move up", full.letter(39, PLACE), 38);
        CensoredThreads empty = written("0>a");
        empty.pass(1);
        is("the row is empty", empty.count(ROW_0), 0);
        write(empty, "0>a");
        is("the first in an empty row", empty.letter(1, PLACE), 0);
    }

    private static void whereLettersAre() {
        says("A letter is waiting (in its row), has come (to the other prison), or is burnt.");
        CensoredThreads x = written("0>a,1>aaa,2>b,2<c");
        x.strike(0, 0);
        x.set(TURNS, 1);
        x.set(READS, 2);
        x.pass(1);
        is("come", x.letter(0, WHERE), COME);
        is("burnt", x.letter(1, WHERE), BURNT);
        is("waiting", x.letter(2, WHERE), WAITING);
        places("in its row alone if it is waiting", x, NONE, NONE, 0, 0);
        is("all that wait", x.count(ALL_WAITING), x.count(ROW_0) + x.count(ROW_1));
    }

    private static void censorsAndTheirSets() {
        says("There are 4 censors, 0 to 3, each with a set of words that he or she strikes (a bit mask: the bit 0 is a; none at first).");
        CensoredThreads x = fresh();
        for (int censor = 0; censor < 4; censor++) {
            is("none at first, " + censor, x.censor(censor, WORD_SET), 0);
        }
        x.strike(0, 0);
        is("a is the bit 0", x.censor(0, WORD_SET), 1);
        x.strike(3, 25);
        is("z is the bit 25", x.censor(3, WORD_SET), 1 << 25);
        is("the others strike nothing", x.censor(1, WORD_SET) + x.censor(2, WORD_SET), 0);
        is("no censor 4", x.censor(4, WORD_SET), NO_SUCH);
        is("no censor -1", x.censor(-1, WORD_SET), NO_SUCH);
        CensoredThreads y = written("0>abz,1<abz");
        y.strike(0, 25);
        y.pass(1);
        is("z struck", y.word(0, 2), '*');
        is("a not struck", y.word(0, 0), 'a');
        is("with none nothing is struck", y.letter(1, STRUCK), 0);
    }

    private static void roster() {
        says("The roster has 4 weeks, 0 to 3, and a censor for each prison in each: at first the censor of the week w for the "
            + "prison p is w and p, together, left over by 4.");
        int[] censors = {0, 1, 1, 2, 2, 3, 3, 0};
        CensoredThreads x = fresh();
        for (int shift = 0; shift < 8; shift++) {
            is("week " + shift / 2 + ", prison " + shift % 2, x.onShift(shift / 2, shift % 2), censors[shift]);
        }
        for (int censor = 0; censor < 4; censor++) {
            is("shifts of " + censor, x.censor(censor, SHIFTS), 2);
        }
    }

    private static void weeksOfTheRoster() {
        says("In the week n (counted from 0) the week of the roster that is n left over by 4 holds.");
        CensoredThreads x = fresh();
        for (int week = 0; week < 9; week++) {
            write(x, "0>a,1<a");
            x.pass(1);
            is("week " + week + ", prison 0", x.letter(2 * week, BY), week % 4);
            is("week " + week + ", prison 1", x.letter(2 * week + 1, BY), (week + 1) % 4);
        }
        CensoredThreads y = fresh();
        y.trade(6, 7);
        passUpTo(y, 3);
        write(y, "0>a,1<a");
        y.pass(1);
        is("a trade holds in the week 3", y.letter(0, BY), 0);
        is("a trade holds for the other prison", y.letter(1, BY), 3);
        CensoredThreads z = fresh();
        passUpTo(z, 9998);
        write(z, "0>a,1<a");
        z.pass(1);
        is("the week 9998, prison 0", z.letter(0, BY), 2);
        is("the week 9998, prison 1", z.letter(1, BY), 3);
    }

    private static void upToReads() {
        says("its censor of this week goes through its row, from the first letter on, and reads letters, up to READS of them.");
        CensoredThreads x = written("0>a,1>b,2>c,3>d,1<e");
        whys("three of four", x, 0, 0, 0, 3, 2);
        x.pass(1);
        is("read by the censor 0", x.censor(0, LETTERS_READ), 3);
        is("the fourth still waits", x.letter(3, WHERE), WAITING);
        is("it is the first now", x.letter(3, PLACE), 0);
        x.pass(1);
        is("read in the next week, prison 0", x.censor(1, LETTERS_READ), 1);
        is("read in the next week, prison 1", x.censor(2, LETTERS_READ), 1);
        x.pass(1);
        is("empty rows, none read", x.censor(2, LETTERS_READ) + x.censor(3, LETTERS_READ), 1);
        CensoredThreads y = written("0>aaa,1>aaa,2>b,0<c,3<d");
        y.set(READS, 2);
        y.strike(0, 0);
        whys("those that are turned back are read, too", y, 4, 4, 3, 2, 0);
        is("each prison up to READS", y.pass(1), 1);
        is("two read", y.censor(0, LETTERS_READ), 2);
        is("one read by the other one", y.censor(1, LETTERS_READ), 1);
    }

    private static void passedOver() {
        says("A letter is passed over (and not read), if some letter ahead of it in its thread was waiting when the week began.");
        CensoredThreads comes = written("0>a,0<b,0>c,1>d");
        comes.set(READS, 2);
        whys("one that comes this week, in both prisons", comes, 0, 2, 2, 0);
        is("two come", comes.pass(1), 2);
        is("those passed over are not among READS", comes.censor(0, LETTERS_READ), 2);
        is("nor read in the other prison", comes.censor(1, LETTERS_READ), 0);
        places("they keep their order", comes, NONE, 0, 0, NONE);
        whys("the next one then", comes, 1, 0, 2, 1);

        CensoredThreads turned = written("0>aaa,0<b");
        turned.strike(0, 0);
        whys("one that is turned back this week", turned, 4, 2);
        turned.pass(1);
        whys("it still waits", turned, 0, 2);

        CensoredThreads burns = written("0>aaa,0<b");
        burns.strike(0, 0);
        burns.set(TURNS, 1);
        whys("one that is burnt this week", burns, 5, 2);
        is("none comes", burns.pass(1), 0);
        whys("one that was burnt before", burns, 1, 0);

        CensoredThreads burnt = written("0>a,0>b,0>c");
        burnt.burn(1);
        whys("not only the one just ahead", burnt, 0, 1, 2);
        burnt.burn(0);
        whys("none ahead that waits", burnt, 1, 1, 0);
        CensoredThreads other = written("0>a,1>b,2>c");
        whys("other threads", other, 0, 0, 0);
    }

    private static void passedOverByTheThreadNotByTheRow() {
        says("A letter is passed over (and not read), if some letter ahead of it in its thread was waiting when the week began.");
        CensoredThreads x = written("0>aaa,0>b");
        x.strike(0, 0);
        x.pass(1);
        places("turned back behind the next one of its thread", x, 1, 0);
        whys("the next one waits for it", x, 0, 2);
        is("it comes", x.pass(1), 1);
        is("it came", x.letter(0, WHERE), COME);
        is("the next one", x.untilCome(1), 1);
        CensoredThreads y = written("3<a,3>b");
        whys("ahead of it in the other prison", y, 0, 2);
    }

    private static void countedWords() {
        says("Of a letter that is read the words that the censor strikes are counted (each place, also of like words).");
        CensoredThreads x = written("0>abacada,1>abcdefg");
        x.set(LIMIT, 3);
        x.strike(0, 0);
        whys("four places of one word", x, 4, 0);
        x.set(LIMIT, 4);
        whys("four are not above four", x, 0, 0);
        x.strike(0, 1);
        whys("and one of another word", x, 4, 0);
        x.set(LIMIT, 5);
        x.pass(1);
        is("struck", x.letter(0, STRUCK), 5);
        is("struck in the other", x.letter(1, STRUCK), 2);
        is("counted for the censor", x.censor(0, WORDS_STRUCK), 7);
    }

    private static void atMostLimit() {
        says("If these are at most LIMIT, they are struck, and the letter goes off the row, and comes at the end of the week.");
        CensoredThreads x = written("0>bcd,1>abc,2>aab,3>aaab");
        x.set(READS, 4);
        x.strike(0, 0);
        is("none, one and two of LIMIT 2", x.pass(1), 3);
        int[] struck = {0, 1, 2, 0};
        for (int letter = 0; letter < 4; letter++) {
            is("struck in " + letter, x.letter(letter, STRUCK), struck[letter]);
        }
        places("off the row", x, NONE, NONE, NONE, 0);
        is("the row", x.count(ROW_0), 1);
        is("struck words", x.word(2, 0) + x.word(2, 1), '*' + '*');
        is("the others stay", x.word(2, 2), 'b');
        CensoredThreads y = written("0>b,1>a");
        y.set(LIMIT, 0);
        y.strike(0, 0);
        whys("LIMIT 0", y, 0, 4);
        is("LIMIT 0 lets one through", y.pass(1), 1);
    }

    private static void turnedBackUnchanged() {
        says("Otherwise it is turned back: it is unchanged");
        CensoredThreads x = written("0>aabac");
        x.strike(0, 0);
        x.pass(1);
        for (int place = 0; place < 5; place++) {
            is("word " + place, x.word(0, place), "aabac".charAt(place));
        }
        is("nothing struck", x.letter(0, STRUCK), 0);
        is("nothing struck by the censor", x.censor(0, WORDS_STRUCK), 0);
        is("nobody let it through", x.letter(0, BY), NONE);
        is("turned by the censor", x.censor(0, LETTERS_TURNED), 1);
        x.strike(1, 1);
        x.pass(1);
        is("the next censor strikes his own words alone", x.letter(0, STRUCK), 1);
        is("a stays", x.word(0, 0), 'a');
        is("b is struck", x.word(0, 2), '*');
    }

    private static void turnedBackTurnsTimes() {
        says("if it was turned back TURNS times or more then, this time counted, it is burnt");
        CensoredThreads x = written("0>aaa,1>bbb");
        allStrike(x, 'a');
        x.set(TURNS, 3);
        x.pass(2);
        is("once less than TURNS", x.letter(0, WHERE), WAITING);
        whys("TURNS times now", x, 5, 1);
        x.set(TURNS, 4);
        whys("once less than TURNS again", x, 4, 1);
        x.set(TURNS, 1);
        whys("more than TURNS times", x, 5, 1);
        x.pass(1);
        is("burnt", x.letter(0, WHERE), BURNT);
        is("turned back this time, too", x.letter(0, TURNED), 3);
        is("off the row", x.count(ROW_0), 0);
        is("words stay", x.word(0, 0), 'a');
        is("no delay", x.letter(0, DELAY), NONE);
    }

    private static void toTheEndOfTheRow() {
        says("otherwise it goes to the end of the row (and is not read again in this week).");
        CensoredThreads alone = written("0>aaa");
        alone.set(READS, 9);
        alone.set(TURNS, 5);
        alone.strike(0, 0);
        alone.pass(1);
        is("read once", alone.censor(0, LETTERS_READ), 1);
        is("turned back once", alone.letter(0, TURNED), 1);
        is("the end of a row of one", alone.letter(0, PLACE), 0);
        CensoredThreads x = written("0>aaa,1>b,2>aaa,3>c,3>d,4>e");
        x.strike(0, 0);
        x.pass(1);
        places("behind those that were not read, in their own order", x, 3, NONE, 4, 0, 1, 2);
        CensoredThreads first = written("0>aaa,1>b");
        first.set(READS, 1);
        first.strike(0, 0);
        first.pass(1);
        places("the next one is the first", first, 1, 0);
        whys("one that is turned back makes no room", first, 3, 0);
    }

    private static void endOfTheWeek() {
        says("At the end of the week those that were let through come, and the count of weeks becomes 1 more.");
        CensoredThreads x = fresh();
        x.pass(1);
        is("an empty week", x.count(WEEKS), 1);
        write(x, "0>a");
        is("it comes", x.pass(1), 1);
        is("weeks", x.count(WEEKS), 2);
        passUpTo(x, 9999);
        is("the last week", x.count(WEEKS), 9999);
    }

    private static void delay() {
        says("The delay of a letter that has come is the count of weeks right behind the week in which it came, less that when "
            + "it was written (1 at least).");
        CensoredThreads x = written("0>a,0>b");
        x.pass(1);
        is("1 at least", x.letter(0, DELAY), 1);
        is("none that waits", x.letter(1, DELAY), NONE);
        write(x, "0>c");
        x.pass(5);
        is("a week more", x.letter(1, DELAY), 2);
        is("written a week later", x.letter(2, DELAY), 2);
        is("it does not grow", x.letter(0, DELAY), 1);
        CensoredThreads late = fresh();
        passUpTo(late, 9998);
        write(late, "0>a");
        late.pass(1);
        is("in the last week", late.letter(0, DELAY), 1);
        is("written in the last but one", late.letter(0, WRITTEN), 9998);
    }

    private static void longDelay() {
        says("The delay of a letter that has come is the count of weeks right behind the week in which it came, less that when "
            + "it was written (1 at least).");
        CensoredThreads x = fresh();
        writeMany(x, 39, "0>a");
        write(x, "0>b");
        allStrike(x, 'a');
        x.set(LIMIT, 0);
        x.set(TURNS, 5);
        is("39 letters of five weeks each", x.pass(52) + x.pass(52) + x.pass(52) + x.pass(39), 0);
        is("all burnt", x.count(ALL_BURNT), 39);
        is("the last one comes", x.pass(1), 1);
        is("its delay", x.letter(39, DELAY), 196);
        is("all delays", x.count(ALL_DELAYS), 196);
        is("the longest", x.count(LONGEST_DELAY), 196);
    }
}
