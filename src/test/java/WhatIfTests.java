/** The sentences of the promises 14 to 17 that name an edge. That they change nothing stands in RefusedTests. */
public final class WhatIfTests extends Sentences {
    public static void main(String[] args) {
        untilComeReturns();
        untilComeNone();
        untilComeHundred();
        untilComeRefuses();
        ifPassedWeeks();
        ifPassedHundred();
        ifPassedWhat();
        ifPassedRefuses();
        behindTheLastWeek();
        bestTradeMoreThanWithout();
        bestTradeMost();
        bestTradeLowestFirst();
        bestTradeLowestSecond();
        bestTradeFourWeeks();
        bestTradeReturns();
        bestTradeNone();
        leastLimitReturns();
        leastLimitLeast();
        leastLimitWaiting();
        leastLimitLateLetters();
        end("WhatIfTests");
    }

    /** So many letters that wait five weeks each until they are burnt, of the thread 0, and then others. */
    private static CensoredThreads burntInTurn(int letters, int others) {
        CensoredThreads x = fresh();
        writeMany(x, letters, "0>a");
        writeMany(x, others, "0>b");
        allStrike(x, 'a');
        x.set(LIMIT, 0);
        x.set(TURNS, 5);
        return x;
    }

    private static void untilComeReturns() {
        says("Tells behind how many weeks a letter has come, if nothing else is done.");
        CensoredThreads x = written("0>aaa,0<b,1>c,2>d,3>e,4>f");
        x.strike(0, 0);
        int[] due = {2, 3, 1, 1, 2, 2};
        for (int letter = 0; letter < 6; letter++) {
            is("untilCome(" + letter + ")", x.untilCome(letter), due[letter]);
        }
        for (int week = 1; week <= 3; week++) {
            x.pass(1);
            for (int letter = 0; letter < 6; letter++) {
                is("a week less, letter " + letter, x.untilCome(letter), Math.max(0, due[letter] - week));
            }
        }
        says("Returns how many, 0 if it has");
        x.pass(52);
        is("come long ago", x.untilCome(0), 0);
    }

    private static void untilComeNone() {
        says("NONE if it has not within 100.");
        CensoredThreads x = written("0>aaa,0>b,1>c");
        allStrike(x, 'a');
        is("burnt in them", x.untilCome(0), NONE);
        is("behind one that is burnt", x.untilCome(1), 3);
        x.burn(2);
        is("burnt already", x.untilCome(2), NONE);
        x.pass(2);
        is("burnt by the censors", x.untilCome(0), NONE);
    }

    private static void untilComeHundred() {
        says("NONE if it has not within 100.");
        CensoredThreads x = burntInTurn(19, 7);
        is("the first behind 19 of five weeks", x.untilCome(19), 96);
        is("99", x.untilCome(22), 99);
        is("100", x.untilCome(23), 100);
        is("101", x.untilCome(24), NONE);
        is("102", x.untilCome(25), NONE);
        x.pass(1);
        is("100 a week later", x.untilCome(24), 100);
        is("101 a week later", x.untilCome(25), NONE);
    }

    private static void untilComeRefuses() {
        says("NO_SUCH if there is no such letter; NONE if it has not within 100.");
        is("no letters", fresh().untilCome(0), NO_SUCH);
        CensoredThreads x = written("0>a,1>a");
        for (int wrong : new int[] {-1, 2, 40, LOW, HIGH}) {
            is("untilCome(" + wrong + ")", x.untilCome(wrong), NO_SUCH);
        }
        CensoredThreads full = fresh();
        writeMany(full, 40, "0>a");
        is("the last of forty", full.untilCome(39), 40);
        is("behind the last of forty", full.untilCome(40), NO_SUCH);
    }

    private static void ifPassedWeeks() {
        says("Tells what weeks would bring.");
        CensoredThreads x = fresh();
        writeMany(x, 40, "0>a");
        for (int weeks : new int[] {1, 2, 39, 40, 41, 100}) {
            is("ifPassed(" + weeks + ", 0)", x.ifPassed(weeks, 0), Math.min(weeks, 40));
        }
        x.pass(39);
        is("the last one", x.ifPassed(100, 0), 1);
        x.pass(1);
        is("none any more", x.ifPassed(100, 0), 0);
        is("none without letters", fresh().ifPassed(100, 0), 0);
    }

    private static void ifPassedHundred() {
        says("1 to 100");
        CensoredThreads x = burntInTurn(19, 7);
        is("come in 95", x.ifPassed(95, 0), 0);
        is("come in 99", x.ifPassed(99, 0), 4);
        is("come in 100", x.ifPassed(100, 0), 5);
        is("burnt in 4", x.ifPassed(4, 1), 0);
        is("burnt in 5", x.ifPassed(5, 1), 1);
        is("burnt in 94", x.ifPassed(94, 1), 18);
        is("burnt in 100", x.ifPassed(100, 1), 19);
        CensoredThreads y = burntInTurn(20, 0);
        is("burnt in 99", y.ifPassed(99, 1), 19);
        is("burnt in the hundredth", y.ifPassed(100, 1), 20);
    }

    private static void ifPassedWhat() {
        says("0 letters that come, 1 letters that are burnt, 2 words that are struck");
        CensoredThreads x = written("0>aab,0<aaa,1>aaa,2>b,2<aaaa,0>ba");
        x.strike(0, 0);
        x.strike(1, 0);
        x.strike(1, 1);
        x.strike(2, 1);
        int[][] due = {{2, 0, 2}, {4, 1, 2}, {5, 1, 3}};
        for (int weeks = 1; weeks <= 3; weeks++) {
            for (int what = 0; what < 3; what++) {
                is("ifPassed(" + weeks + ", " + what + ")", x.ifPassed(weeks, what), due[weeks - 1][what]);
            }
        }
        x.burn(3);
        x.pass(1);
        is("what is burnt already does not count", x.ifPassed(1, 1), 1);
        is("what has come already does not count", x.ifPassed(1, 0), 2);
        is("what is struck already does not count", x.ifPassed(2, 2), 1);
    }

    private static void ifPassedRefuses() {
        says("Returns the number; BAD_VALUE if an argument is out of range.");
        CensoredThreads x = written("0>a");
        for (int wrong : new int[] {0, 101, -1, 102, LOW, HIGH}) {
            for (int what = -1; what <= 3; what++) {
                is("ifPassed(" + wrong + ", " + what + ")", x.ifPassed(wrong, what), BAD_VALUE);
            }
        }
        for (int wrong : new int[] {-1, 3, 4, LOW, HIGH}) {
            for (int weeks : new int[] {1, 100, 0, 101}) {
                is("ifPassed(" + weeks + ", " + wrong + ")", x.ifPassed(weeks, wrong), BAD_VALUE);
            }
        }
        is("the lowest of both", x.ifPassed(1, 0), 1);
        is("the highest of both", x.ifPassed(100, 2), 0);
    }

    private static void behindTheLastWeek() {
        says("TOO_MANY if the weeks would be above 9999.");
        CensoredThreads x = fresh();
        passUpTo(x, 9999);
        write(x, "0>aaa,0<b,1<c");
        x.strike(3, 0);
        is("pass alone is refused", x.pass(1), TOO_MANY);
        is("untilCome goes on", x.untilCome(1), 3);
        is("ifPassed goes on", x.ifPassed(100, 0), 3);
        is("bestTrade goes on", x.bestTrade(), NONE);
        x.set(TURNS, 1);
        is("bestTrade in the week 9999", x.bestTrade(), 6);
        is("leastLimit goes on", x.leastLimit(), 3);
    }

    private static void bestTradeMoreThanWithout() {
        says("Finds the trade of two shifts with which the most letters come in the next 4 weeks, more than without one");
        CensoredThreads x = written("0>aaa,0>b");
        x.strike(0, 0);
        // The letter 0 comes in the second week: with a trade it would come sooner, but no more letters would come.
        is("as many as without one", x.bestTrade(), NONE);
        x.set(TURNS, 1);
        is("one more", x.bestTrade(), 1);
    }

    private static void bestTradeMost() {
        says("Finds the trade of two shifts with which the most letters come in the next 4 weeks, more than without one");
        CensoredThreads x = written("0>aaa,1<aaa,2<aaa");
        x.set(TURNS, 1);
        x.strike(0, 0);
        x.strike(1, 0);
        // With another censor on the shift 0 one letter more comes, with another one on the shift 1 two.
        is("two more, though its first shift is higher", x.bestTrade(), 8 * 1 + 3);
        x.burn(2);
        is("one more", x.bestTrade(), 3);
    }

    private static void bestTradeLowestFirst() {
        says("of several the one with the lowest first shift, of these with the lowest second one.");
        CensoredThreads x = written("0>aaa,1<bbb");
        x.set(TURNS, 1);
        for (int censor = 0; censor < 3; censor++) {
            x.strike(censor, 0);
        }
        x.strike(1, 1);
        x.strike(0, 1);
        // One letter more with the censor 3 on the shift 0 (5 or 6), or with the censor 2 or 3 on the shift 1 (3 to 6).
        is("the lowest first one, though the second is higher", x.bestTrade(), 5);
    }

    private static void bestTradeLowestSecond() {
        says("of several the one with the lowest first shift, of these with the lowest second one.");
        CensoredThreads x = written("0<aaa");
        x.set(TURNS, 1);
        x.strike(1, 0);
        is("the shift 1 with the shift 0", x.bestTrade(), 1);
        x.strike(0, 0);
        is("the shift 1 with the shift 3, not with 4, 5 or 6", x.bestTrade(), 8 * 1 + 3);
        x.strike(2, 0);
        is("the shift 1 with the shift 5, not with 6", x.bestTrade(), 8 * 1 + 5);
    }

    private static void bestTradeFourWeeks() {
        says("Finds the trade of two shifts with which the most letters come in the next 4 weeks");
        CensoredThreads x = written("0>b,0>b,0>b,0>aaa");
        x.set(TURNS, 1);
        x.strike(3, 0);
        is("in the fourth week", x.bestTrade(), 6);
        CensoredThreads y = written("0>b,0>b,0>b,0>b,0>aaa");
        y.set(TURNS, 1);
        y.strike(0, 0);
        is("in the fifth week", y.bestTrade(), NONE);
        y.pass(1);
        is("in the fourth week, of the next week of the roster", y.bestTrade(), 1);
    }

    private static void bestTradeReturns() {
        says("Returns 8 times the first shift (the lower one) and the second one, together");
        CensoredThreads x = fresh();
        passUpTo(x, 3);
        write(x, "0>aaa,1<bbb");
        x.set(TURNS, 1);
        x.strike(3, 0);
        x.strike(0, 1);
        // The censors 3 and 0 read in the week 3, each turns back the letter of the one prison alone.
        is("the two highest shifts", x.bestTrade(), 8 * 6 + 7);
        CensoredThreads y = written("0>aaa");
        y.set(TURNS, 1);
        y.strike(0, 0);
        is("the two lowest shifts", y.bestTrade(), 1);
    }

    private static void bestTradeNone() {
        says("together; NONE if there is none.");
        is("no letters", fresh().bestTrade(), NONE);
        CensoredThreads x = written("0>aaa,1<aaa");
        is("all come without one", x.bestTrade(), NONE);
        allStrike(x, 'a');
        x.set(TURNS, 1);
        is("none comes with any", x.bestTrade(), NONE);
        x.pass(1);
        is("all are burnt", x.bestTrade(), NONE);
    }

    private static void leastLimitReturns() {
        says("Returns the value, 0 to 8.");
        is("no letters", fresh().leastLimit(), 0);
        String[] letters = {"0>b", "0>a", "0>aa", "0>baa", "0>aaaa", "0>aaaaa", "0>aaaaaa", "0>aaaaaaa", "0>aaaaaaaa"};
        int[] least = {0, 1, 2, 2, 4, 5, 6, 7, 8};
        for (int i = 0; i < letters.length; i++) {
            CensoredThreads x = written(letters[i]);
            is("none strikes, " + letters[i], x.leastLimit(), 0);
            x.strike(0, 0);
            is("a is struck, " + letters[i], x.leastLimit(), least[i]);
        }
    }

    private static void leastLimitLeast() {
        says("Finds the least LIMIT with which no letter that waits is ever turned back in the next 100 weeks.");
        CensoredThreads x = written("0>aaab,1<ab,0<bbbbbb");
        x.strike(0, 0);
        x.strike(1, 0);
        x.strike(2, 1);
        is("the censor 2 reads the last one in the second week", x.leastLimit(), 6);
        for (int value = 0; value <= 8; value++) {
            x.set(LIMIT, value);
            is("whatever LIMIT is, " + value, x.leastLimit(), 6);
            x.undo();
        }
        for (int value = 1; value <= 5; value++) {
            x.set(TURNS, value);
            is("whatever TURNS is, " + value, x.leastLimit(), 6);
            x.undo();
        }
        x.strike(2, 1);
        is("the first one then", x.leastLimit(), 3);
        x.strike(0, 0);
        is("the second one then", x.leastLimit(), 1);
        x.strike(1, 0);
        is("none is struck", x.leastLimit(), 0);
    }

    private static void leastLimitWaiting() {
        says("Finds the least LIMIT with which no letter that waits is ever turned back in the next 100 weeks.");
        CensoredThreads x = written("0>aaa,1>a,2>aaaaa");
        allStrike(x, 'a');
        x.burn(2);
        is("one that is burnt does not count", x.leastLimit(), 3);
        x.set(LIMIT, 8);
        x.pass(1);
        is("those that have come do not count", x.leastLimit(), 0);
        CensoredThreads y = written("0>aaa,1>b");
        y.strike(0, 0);
        y.pass(1);
        is("one that was turned back before", y.leastLimit(), 0);
    }

    private static void leastLimitLateLetters() {
        says("Finds the least LIMIT with which no letter that waits is ever turned back in the next 100 weeks.");
        CensoredThreads x = fresh();
        writeMany(x, 39, "0>b");
        write(x, "0>aaaaaaaa");
        x.strike(2, 0);
        is("the week 39 has the censor 3", x.leastLimit(), 0);
        x.strike(3, 0);
        is("the last of forty", x.leastLimit(), 8);
    }
}
