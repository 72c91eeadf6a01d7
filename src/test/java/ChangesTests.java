/** The sentences of the promises 1 to 7 that name an edge. What a refused call leaves behind stands in RefusedTests. */
public final class ChangesTests extends Sentences {
    public static void main(String[] args) {
        newObject();
        setReturns();
        setRefuses();
        strikeChanges();
        strikeReturns();
        strikeRefuses();
        tradeShifts();
        tradeReturns();
        tradeRefuses();
        tradeNotPossible();
        readWrites();
        readReturns();
        readBadText();
        readTooMany();
        burns();
        burnReturns();
        burnRefuses();
        passes();
        passReturns();
        passBadValue();
        passTooMany();
        end("ChangesTests");
    }

    private static void newObject() {
        says("Creates prisons without letters, in the week 0.");
        CensoredThreads x = fresh();
        int[] counts = {3, 2, 2, 0, 0, 0, 0, 0, 0, 0, 0, 0, 0, 0, 0, 0};
        for (int what = 0; what <= 15; what++) {
            is("count(" + what + ")", x.count(what), counts[what]);
        }
        for (int censor = 0; censor < 4; censor++) {
            is("read by " + censor, x.censor(censor, LETTERS_READ), 0);
            is("struck by " + censor, x.censor(censor, WORDS_STRUCK), 0);
            is("turned by " + censor, x.censor(censor, LETTERS_TURNED), 0);
        }
        x.set(READS, 9);
        x.strike(0, 0);
        x.trade(0, 1);
        write(x, "0>a");
        x.save(0);
        Due.putAll(x, "0>");
        CensoredThreads other = fresh();
        is("objects share no settings", other.count(READS), 3);
        is("objects share no censors", other.censor(0, WORD_SET), 0);
        is("objects share no roster", other.onShift(0, 0), 0);
        is("objects share no letters", other.count(LETTERS), 0);
        is("objects share no pad", other.count(PAD), 0);
        is("objects share no history", other.undo(), NOT_POSSIBLE);
        is("objects share no slots", other.restore(0), NOT_POSSIBLE);
    }

    private static void setReturns() {
        says("Returns the previous value; BAD_VALUE if there is no such setting, or value is out of its range.");
        CensoredThreads x = fresh();
        int[][] values = {{3, 1, 9, 9, 5}, {2, 0, 8, 8, 5}, {2, 1, 5, 5, 3}};
        for (int setting = 0; setting < 3; setting++) {
            for (int i = 1; i < 5; i++) {
                is("set(" + setting + ", " + values[setting][i] + ")", x.set(setting, values[setting][i]), values[setting][i - 1]);
                is("count(" + setting + ")", x.count(setting), values[setting][i]);
            }
        }
        is("READS stays", x.count(READS), 5);
        is("LIMIT stays", x.count(LIMIT), 5);
        is("TURNS stays", x.count(TURNS), 3);
    }

    private static void setRefuses() {
        says("Returns the previous value; BAD_VALUE if there is no such setting, or value is out of its range.");
        CensoredThreads x = fresh();
        for (int setting : new int[] {-1, 3, 4, LOW, HIGH}) {
            for (int value : new int[] {1, 2, 0, 9, LOW, HIGH}) {
                is("set(" + setting + ", " + value + ")", x.set(setting, value), BAD_VALUE);
            }
        }
        int[] below = {0, -1, 0};
        int[] above = {10, 9, 6};
        for (int setting = 0; setting < 3; setting++) {
            is("set(" + setting + ", " + below[setting] + ")", x.set(setting, below[setting]), BAD_VALUE);
            is("set(" + setting + ", " + above[setting] + ")", x.set(setting, above[setting]), BAD_VALUE);
            is("set(" + setting + ", lowest)", x.set(setting, LOW), BAD_VALUE);
            is("set(" + setting + ", highest)", x.set(setting, HIGH), BAD_VALUE);
        }
    }

    private static void strikeChanges() {
        says("Changes whether a censor strikes a word: if so, no more, otherwise from now on.");
        CensoredThreads x = written("0>abz");
        x.set(LIMIT, 0);
        x.strike(0, 25);
        is("struck from now on", x.why(0), 4);
        x.strike(0, 25);
        is("no more", x.why(0), 0);
        is("an empty set again", x.censor(0, WORD_SET), 0);
        x.strike(0, 25);
        is("and again", x.why(0), 4);
        x.set(LIMIT, 1);
        x.pass(1);
        x.strike(0, 25);
        is("a struck word stays struck", x.word(0, 2), '*');
        x.strike(0, 0);
        is("a word that came stays", x.word(0, 0), 'a');
    }

    private static void strikeReturns() {
        says("Returns how many words this censor strikes then; NO_SUCH if there is no such censor or word.");
        CensoredThreads x = fresh();
        is("the first", x.strike(3, 0), 1);
        is("none again", x.strike(3, 0), 0);
        for (int word = 0; word < 26; word++) {
            is("up to " + word, x.strike(0, word), word + 1);
        }
        is("all", x.censor(0, WORD_SET), (1 << 26) - 1);
        is("one less", x.strike(0, 25), 25);
        is("another censor", x.strike(1, 25), 1);
    }

    private static void strikeRefuses() {
        says("Returns how many words this censor strikes then; NO_SUCH if there is no such censor or word.");
        CensoredThreads x = fresh();
        for (int wrong : new int[] {-1, 4, 8, LOW, HIGH}) {
            is("strike(" + wrong + ", 0)", x.strike(wrong, 0), NO_SUCH);
            is("strike(" + wrong + ", 26)", x.strike(wrong, 26), NO_SUCH);
        }
        for (int wrong : new int[] {-1, 26, 27, 31, 32, 64, -32, LOW, HIGH}) {
            is("strike(0, " + wrong + ")", x.strike(0, wrong), NO_SUCH);
        }
        is("nothing is struck", x.censor(0, WORD_SET), 0);
    }

    private static void tradeShifts() {
        says("2 times the week of the roster and the prison, together: 0 to 7");
        int[] censors = {0, 1, 1, 2, 2, 3, 3, 0};
        for (int one = 0; one < 8; one++) {
            for (int other = 0; other < 8; other++) {
                if (censors[one] == censors[other]) {
                    continue;
                }
                CensoredThreads x = fresh();
                x.trade(one, other);
                for (int shift = 0; shift < 8; shift++) {
                    int due = shift == one ? censors[other] : shift == other ? censors[one] : censors[shift];
                    is("shift " + shift + " behind trade(" + one + ", " + other + ")", x.onShift(shift / 2, shift % 2), due);
                }
            }
        }
    }

    private static void tradeReturns() {
        says("Returns the censor who has the first one of these shifts then");
        CensoredThreads x = fresh();
        is("the lowest and the next", x.trade(0, 1), 1);
        is("back", x.trade(1, 0), 1);
        is("two highest", x.trade(7, 6), 3);
        is("shifts of the roster of a later week", x.onShift(9999, 1), 3);
        is("the first then", x.trade(7, 0), 0);
    }

    private static void tradeRefuses() {
        says("NO_SUCH if there is no such shift; NOT_POSSIBLE if both have the same censor.");
        CensoredThreads x = fresh();
        for (int wrong : new int[] {-1, 8, 9, LOW, HIGH}) {
            is("trade(" + wrong + ", 0)", x.trade(wrong, 0), NO_SUCH);
            is("trade(0, " + wrong + ")", x.trade(0, wrong), NO_SUCH);
            is("trade(" + wrong + ", 7)", x.trade(wrong, 7), NO_SUCH);
            is("trade of one that is not with itself", x.trade(wrong, wrong), NO_SUCH);
        }
    }

    private static void tradeNotPossible() {
        says("NO_SUCH if there is no such shift; NOT_POSSIBLE if both have the same censor.");
        CensoredThreads x = fresh();
        for (int shift = 0; shift < 8; shift++) {
            is("a shift with itself, " + shift, x.trade(shift, shift), NOT_POSSIBLE);
        }
        int[][] alike = {{0, 7}, {1, 2}, {3, 4}, {5, 6}};
        for (int[] pair : alike) {
            is("shifts " + pair[0] + " and " + pair[1], x.trade(pair[0], pair[1]), NOT_POSSIBLE);
            is("shifts " + pair[1] + " and " + pair[0], x.trade(pair[1], pair[0]), NOT_POSSIBLE);
        }
        x.trade(0, 1);
        is("others after a trade", x.trade(0, 2), NOT_POSSIBLE);
        is("no more the same", x.trade(0, 7), 0);
    }

    private static void readWrites() {
        says("Letters of the pad are written, one after the other, and the pad is emptied.");
        CensoredThreads x = written("4<zyx,0>a,4>b");
        is("the pad", x.count(PAD), 0);
        is("its fault", x.fault(), 0);
        is("no letter in it", x.read(), BAD_TEXT);
        is("the first", x.letter(0, THREAD), 4);
        is("its words", x.letter(0, WORDS), 3);
        is("its last word", x.word(0, 2), 'x');
        is("the second", x.letter(1, THREAD), 0);
        is("the third", x.letter(2, AHEAD), 0);
        places("in their rows", x, 0, 0, 1);
        is("in the week 0", x.letter(2, WRITTEN), 0);
        passUpTo(x, 9999);
        write(x, "1>q");
        is("in the week 9999", x.letter(3, WRITTEN), 9999);
    }

    private static void readReturns() {
        says("Returns how many letters there are then");
        CensoredThreads x = fresh();
        is("one", write(x, "0>a"), 1);
        is("fifteen of 60 signs", write(x, times(14, "0>a") + ",0>b"), 16);
        is("those that are burnt are letters, too", x.burn(0), 0);
        is("then", write(x, "0>a,0>a"), 18);
        x.pass(1);
        is("those that have come, too", write(x, "0>a"), 19);
    }

    private static void readBadText() {
        says("BAD_TEXT if the pad has a fault");
        CensoredThreads x = fresh();
        is("an empty pad", x.read(), BAD_TEXT);
        String[] wrong = {"0", "0>", "0>a,", ",0>a", "5>a", "0-a", "0>A", "0>abcdefghi", "0>a;1>b", "0>a,1>b,2>c,3>d,4>e,5>f"};
        for (String text : wrong) {
            CensoredThreads y = fresh();
            Due.putAll(y, text);
            is(text, y.read(), BAD_TEXT);
            is("the pad stays, " + text, y.count(PAD), text.length());
            is("no letter of " + text, y.count(LETTERS), 0);
        }
    }

    private static void readTooMany() {
        says("TOO_MANY if there would be more than 40.");
        CensoredThreads x = fresh();
        writeMany(x, 30, "0>a");
        Due.putAll(x, times(11, "1>b"));
        is("41", x.read(), TOO_MANY);
        is("none of them is written", x.count(LETTERS), 30);
        is("the pad stays", x.count(PAD), 43);
        x.wipe();
        is("40", write(x, times(10, "1>b")), 40);
        is("41 when there are 40", write(x, "1>b"), TOO_MANY);
        x.wipe();
        x.pass(52);
        is("those that have come count", write(x, "1>b"), TOO_MANY);
        CensoredThreads y = fresh();
        writeMany(y, 39, "0>a");
        is("the last one", write(y, "1>b"), 40);
        CensoredThreads z = fresh();
        writeMany(z, 39, "0>a");
        is("two more than 39", write(z, "1>b,1>b"), TOO_MANY);
        CensoredThreads burnt = fresh();
        writeMany(burnt, 40, "0>a");
        burnt.burn(0);
        is("those that are burnt count", write(burnt, "1>b"), TOO_MANY);
    }

    private static void burns() {
        says("Burns a letter that is waiting.");
        CensoredThreads x = written("0>a,1>b,2>c,1<d");
        x.burn(1);
        places("out of the middle of the row", x, 0, NONE, 1, 0);
        x.burn(0);
        places("the first of the row", x, NONE, NONE, 0, 0);
        x.burn(2);
        is("the last of the row", x.count(ROW_0), 0);
        is("the other row", x.count(ROW_1), 1);
        is("burnt", x.letter(2, WHERE), BURNT);
        is("not turned back for it", x.letter(2, TURNED), 0);
        is("no censor burnt it", x.censor(0, LETTERS_TURNED), 0);
        is("all burnt", x.count(ALL_BURNT), 3);
        is("no letter ahead waits any more", x.why(3), 0);
        is("the letter ahead is the same", x.letter(3, AHEAD), 1);
        CensoredThreads full = fresh();
        writeMany(full, 40, "0>a");
        is("the last of forty", full.burn(39), 0);
        is("its row", full.count(ROW_0), 39);
    }

    private static void burnReturns() {
        says("Returns for how many weeks it waited");
        CensoredThreads x = written("0>a,0>b,0>c");
        is("in the week in which it was written", x.burn(2), 0);
        x.pass(1);
        is("a week later", x.burn(1), 1);
        CensoredThreads y = fresh();
        y.pass(3);
        write(y, "0>a");
        is("written in the week 3", y.burn(0), 0);
        CensoredThreads z = fresh();
        z.pass(3);
        writeMany(z, 40, "0>a");
        z.pass(39);
        is("the last of forty", z.burn(39), 39);
    }

    private static void burnRefuses() {
        says("NO_SUCH if there is no such letter; NOT_POSSIBLE if it is not waiting.");
        is("no letter", fresh().burn(0), NO_SUCH);
        CensoredThreads x = written("0>a,0>b,1>ccc");
        x.strike(0, 2);
        x.set(TURNS, 1);
        for (int wrong : new int[] {-1, 3, 40, LOW, HIGH}) {
            is("burn(" + wrong + ")", x.burn(wrong), NO_SUCH);
        }
        x.pass(1);
        is("one that has come", x.burn(0), NOT_POSSIBLE);
        is("one that the week burnt", x.burn(2), NOT_POSSIBLE);
        is("one that waits", x.burn(1), 1);
        is("one that was burnt", x.burn(1), NOT_POSSIBLE);
    }

    private static void passes() {
        says("Lets weeks pass.");
        CensoredThreads x = fresh();
        is("one", x.pass(1), 0);
        is("weeks", x.count(WEEKS), 1);
        is("fifty-two", x.pass(52), 0);
        is("weeks then", x.count(WEEKS), 53);
        CensoredThreads once = fresh();
        CensoredThreads twice = fresh();
        for (CensoredThreads y : new CensoredThreads[] {once, twice}) {
            write(y, "0>aaa,1>b,0<c,2>aab");
            y.strike(0, 0);
        }
        once.pass(2);
        twice.pass(1);
        twice.pass(1);
        for (int letter = 0; letter < 4; letter++) {
            is("two weeks at once or one by one, letter " + letter, once.letter(letter, DELAY), twice.letter(letter, DELAY));
        }
    }

    private static void passReturns() {
        says("Returns how many letters come in them");
        CensoredThreads x = fresh();
        is("none without letters", x.pass(52), 0);
        writeMany(x, 40, "0>a");
        is("one a week", x.pass(1), 1);
        is("two in two", x.pass(2), 2);
        is("the rest", x.pass(52), 37);
        is("none again", x.pass(1), 0);
        CensoredThreads y = written("0>aaa,1<b");
        y.set(TURNS, 1);
        y.strike(0, 0);
        is("those that are burnt do not come", y.pass(1), 1);
        CensoredThreads z = fresh();
        for (int i = 0; i < 4; i++) {
            write(z, "0>a,1>a,2>a,3>a,4>a,0<a,1<a,2<a,3<a,4<a");
        }
        z.set(READS, 9);
        is("five threads, forty letters", z.pass(8), 40);
    }

    private static void passBadValue() {
        says("BAD_VALUE if weeks is out of range");
        CensoredThreads x = written("0>a");
        for (int wrong : new int[] {0, -1, 53, 100, LOW, HIGH}) {
            is("pass(" + wrong + ")", x.pass(wrong), BAD_VALUE);
        }
        is("no week passed", x.count(WEEKS), 0);
        is("the letter waits", x.count(ALL_WAITING), 1);
    }

    private static void passTooMany() {
        says("TOO_MANY if the weeks would be above 9999.");
        CensoredThreads x = fresh();
        passUpTo(x, 9947);
        is("9947 and 52", x.pass(52), 0);
        is("9999", x.count(WEEKS), 9999);
        is("one more", x.pass(1), TOO_MANY);
        is("fifty-two more", x.pass(52), TOO_MANY);
        is("stays", x.count(WEEKS), 9999);
        CensoredThreads y = fresh();
        passUpTo(y, 9948);
        is("9948 and 52", y.pass(52), TOO_MANY);
        is("none of them passes", y.count(WEEKS), 9948);
        is("9948 and 51", y.pass(51), 0);
        CensoredThreads z = fresh();
        passUpTo(z, 9998);
        is("9998 and 2", z.pass(2), TOO_MANY);
        is("9998 and 1", z.pass(1), 0);
        z.undo();
        is("one is undone, and passes again", z.pass(1), 0);
        is("and no more", z.pass(1), TOO_MANY);
    }
}
