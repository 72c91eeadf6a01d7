import java.util.List;
import java.util.function.Consumer;
import java.util.function.ToIntFunction;

/** The sentences of the promises 21 to 23 that name an edge. */
public final class HistoryTests extends Sentences {
    public static void main(String[] args) {
        undoNotPossible();
        undoReturns();
        undoFourStates();
        undoDropsTheOldest();
        undoRecordsTheSame();
        undoOfEachChange();
        undoRecordsChangesAlone();
        undoRecordsNoErrors();
        undoKeepsPadAndSlots();
        undoThenChange();
        saveReturns();
        saveOverwrites();
        saveIsNotTouchedLater();
        restoreReturns();
        restoreNotPossible();
        restoreKeeps();
        restoreIsAChange();
        restoreLeavesPadAndHistory();
        restoreOfOtherLetters();
        undoToOtherLetters();
        lettersWrittenAnew();
        end("HistoryTests");
    }

    /** A state with letters that wait, have come and are burnt, with a full history, both slots and a text on the pad. */
    private static void busy(CensoredThreads x) {
        x.strike(0, 0);
        x.strike(1, 1);
        write(x, "0>aab,0<c,1>aaa,2>b,3<abc,4>k");
        x.save(0);
        x.pass(1);
        x.trade(0, 3);
        x.burn(5);
        x.save(1);
        x.set(TURNS, 4);
        x.strike(2, 2);
        Due.putAll(x, "2<xy,1>zz");
    }

    private static void alike(String when, Consumer<CensoredThreads> some, Consumer<CensoredThreads> others) {
        String difference = Whole.difference(Whole.behind(some), Whole.behind(others));
        is(when + (difference.isEmpty() ? "" : ": " + difference), difference.length(), 0);
    }

    private static void undoNotPossible() {
        says("Returns how many changes can be undone then; NOT_POSSIBLE if there is none.");
        CensoredThreads x = fresh();
        is("a new object", x.undo(), NOT_POSSIBLE);
        x.set(READS, 4);
        is("the one change", x.undo(), 0);
        is("none any more", x.undo(), NOT_POSSIBLE);
        is("it stays undone", x.count(READS), 3);
        Due.putAll(x, "0>a");
        x.save(0);
        is("what is no change", x.undo(), NOT_POSSIBLE);
    }

    private static void undoReturns() {
        says("Returns how many changes can be undone then; NOT_POSSIBLE if there is none.");
        for (int changes = 1; changes <= 6; changes++) {
            CensoredThreads x = fresh();
            for (int i = 0; i < changes; i++) {
                x.pass(1);
            }
            int most = Math.min(changes, 4);
            for (int left = most - 1; left >= 0; left--) {
                is("undo behind " + changes, x.undo(), left);
                is("weeks", x.count(WEEKS), changes - most + left);
                is("how many can be undone", x.count(PAST), left);
            }
            is("no more", x.undo(), NOT_POSSIBLE);
        }
    }

    private static void undoFourStates() {
        says("A history of at most 4 states is kept");
        CensoredThreads x = fresh();
        for (int value = 4; value <= 7; value++) {
            x.set(READS, value);
            is("changes", x.count(PAST), value - 3);
        }
        for (int i = 0; i < 4; i++) {
            x.undo();
        }
        is("the first state of four", x.count(READS), 3);
    }

    private static void undoDropsTheOldest() {
        says("when one more is recorded, the oldest one is dropped.");
        CensoredThreads x = fresh();
        for (int value = 4; value <= 8; value++) {
            x.set(READS, value);
        }
        is("four of five", x.count(PAST), 4);
        for (int value = 7; value >= 4; value--) {
            x.undo();
            is("the state ahead", x.count(READS), value);
        }
        is("the oldest is dropped", x.undo(), NOT_POSSIBLE);
        is("and is not reached", x.count(READS), 4);
        for (int round = 0; round < 3; round++) {
            for (int value = 1; value <= 9; value++) {
                x.set(READS, value);
            }
            for (int value = 8; value >= 5; value--) {
                x.undo();
                is("round " + round, x.count(READS), value);
            }
        }
    }

    private static void undoRecordsTheSame() {
        says("records the state before it (also if nothing is different then)");
        CensoredThreads x = fresh();
        is("the same value", x.set(READS, 3), 3);
        is("is recorded", x.count(PAST), 1);
        x.save(0);
        x.restore(0);
        is("the same state", x.count(PAST), 2);
        is("undo of it", x.undo(), 1);
        is("undo of the other", x.undo(), 0);
        is("READS", x.count(READS), 3);
    }

    private static void undoOfEachChange() {
        says("Undoes the latest change: everything except the pad, the slots and the history is as it was before it.");
        // The change drops the oldest state of the full history, so both histories are filled anew before they are compared.
        Consumer<CensoredThreads> before = x -> {
            busy(x);
            x.wipe();
        };
        undone("set", before, x -> x.set(READS, 9));
        undone("strike", before, x -> x.strike(0, 25));
        undone("a strike that ends", before, x -> x.strike(0, 0));
        undone("trade", before, x -> x.trade(7, 2));
        undone("read", before, x -> write(x, "4>abc,4<de"));
        undone("burn", before, x -> x.burn(1));
        undone("a week", before, x -> x.pass(1));
        undone("many weeks", before, x -> x.pass(52));
        undone("restore 0", before, x -> x.restore(0));
        undone("restore 1", before, x -> x.restore(1));
        undone("read of the first letters", x -> { }, x -> write(x, "0>abcdefgh,1<b"));
    }

    private static void undone(String change, Consumer<CensoredThreads> before, ToIntFunction<CensoredThreads> call) {
        CensoredThreads x = fresh();
        before.accept(x);
        is(change + " is no error", call.applyAsInt(x) >= 0 ? 1 : 0, 1);
        List<String> due = Whole.behind(y -> {
            before.accept(y);
            forget(y);
        });
        List<String> got = Whole.behind(y -> {
            before.accept(y);
            call.applyAsInt(y);
            y.undo();
            forget(y);
        });
        String difference = Whole.difference(due, got);
        is("undo of " + change + (difference.isEmpty() ? "" : ": " + difference), difference.length(), 0);
    }

    /** Four changes that change nothing, so that the history holds nothing else. */
    private static void forget(CensoredThreads x) {
        for (int i = 0; i < 4; i++) {
            x.set(READS, x.count(READS));
        }
    }

    private static void undoRecordsChangesAlone() {
        says("each method that is a change, and returns no error, records the state before it");
        CensoredThreads x = written("0>a,1>b");
        x.undo();
        is("undo is none", x.count(PAST), 0);
        Due.putAll(x, "0>a,1>b");
        x.wipe();
        x.fault();
        x.save(1);
        x.bestTrade();
        x.leastLimit();
        x.ifPassed(100, 0);
        x.onShift(0, 0);
        x.censor(0, 0);
        is("texts, questions and save are none", x.count(PAST), 0);
        recorded("set", x.set(READS, 1), x, 1);
        recorded("strike", x.strike(0, 0), x, 2);
        recorded("trade", x.trade(0, 1), x, 3);
        recorded("read", write(x, "0>a"), x, 4);
        CensoredThreads y = written("0>a,1>b");
        is("read is one", y.count(PAST), 1);
        recorded("burn", y.burn(0), y, 2);
        recorded("pass", y.pass(1), y, 3);
        y.save(0);
        recorded("restore", y.restore(0), y, 4);
        y.letter(1, 0);
        y.word(1, 0);
        y.why(1);
        y.untilCome(1);
        is("questions are none", y.count(PAST), 4);
        is("the latest change is restore", y.undo(), 3);
    }

    private static void recorded(String change, int answer, CensoredThreads x, int changes) {
        is(change + " is no error", answer >= 0 ? 1 : 0, 1);
        is(change + " is recorded", x.count(PAST), changes);
    }

    private static void undoRecordsNoErrors() {
        says("each method that is a change, and returns no error, records the state before it");
        CensoredThreads x = fresh();
        x.set(3, 1);
        x.strike(4, 0);
        x.trade(0, 0);
        x.trade(8, 0);
        x.read();
        x.burn(0);
        x.pass(0);
        x.restore(0);
        x.restore(2);
        x.undo();
        is("none is recorded", x.count(PAST), 0);
        passUpTo(x, 9999);
        for (int i = 0; i < 4; i++) {
            x.undo();
        }
        is("none left", x.count(PAST), 0);
        passUpTo(x, 9999);
        int past = x.count(PAST);
        x.pass(1);
        is("a pass that is refused", x.count(PAST), past);
    }

    private static void undoKeepsPadAndSlots() {
        says("everything except the pad, the slots and the history is as it was before it.");
        CensoredThreads x = fresh();
        Due.putAll(x, "0>a");
        is("a letter is written", x.read(), 1);
        x.undo();
        is("the pad does not come back", x.count(PAD), 0);
        is("the letter is gone", x.count(LETTERS), 0);
        x.set(READS, 5);
        Due.putAll(x, "1<b");
        x.save(0);
        x.set(READS, 6);
        x.save(1);
        x.undo();
        x.undo();
        is("the pad stays", x.count(PAD), 3);
        is("READS", x.count(READS), 3);
        x.restore(1);
        is("what was saved before the undo stays", x.count(READS), 6);
        x.restore(0);
        is("what was saved first stays", x.count(READS), 5);
        is("the text of the pad", x.read(), 1);
        is("its word", x.word(0, 0), 'b');
    }

    private static void undoThenChange() {
        says("A history of at most 4 states is kept");
        CensoredThreads x = fresh();
        for (int value = 4; value <= 8; value++) {
            x.set(READS, value);
        }
        x.undo();
        x.undo();
        x.set(READS, 1);
        is("behind two undos and a change", x.count(PAST), 3);
        int[] due = {6, 5, 4};
        for (int value : due) {
            x.undo();
            is("READS", x.count(READS), value);
        }
        is("no more", x.undo(), NOT_POSSIBLE);
    }

    private static void saveReturns() {
        says("Returns the weeks; BAD_VALUE if there is no such slot.");
        CensoredThreads x = fresh();
        is("the week 0", x.save(0), 0);
        is("the other slot", x.save(1), 0);
        for (int wrong : new int[] {-1, 2, 3, LOW, HIGH}) {
            is("save(" + wrong + ")", x.save(wrong), BAD_VALUE);
        }
        passUpTo(x, 9999);
        is("the week 9999", x.save(1), 9999);
    }

    private static void saveOverwrites() {
        says("Saves everything except the pad, the history and the slots in a slot, and overwrites what was saved there.");
        CensoredThreads x = fresh();
        x.set(READS, 7);
        write(x, "0>a,1>b,2>c");
        x.save(0);
        x.save(1);
        x.undo();
        x.undo();
        is("fewer letters", x.save(0), 0);
        x.restore(1);
        is("the other slot stays", x.count(LETTERS), 3);
        x.restore(0);
        is("no letters", x.count(LETTERS), 0);
        is("READS", x.count(READS), 3);
        is("empty rows", x.count(ROW_0), 0);
    }

    private static void saveIsNotTouchedLater() {
        says("Saves everything except the pad, the history and the slots in a slot");
        Consumer<CensoredThreads> before = x -> {
            busy(x);
            x.save(0);
        };
        for (int i = 0; i < 5; i++) {
            int kind = i;
            alike("restored behind the change " + kind, x -> {
                before.accept(x);
                change(x, kind);
                x.restore(0);
                forget(x);
            }, x -> {
                before.accept(x);
                x.restore(0);
                forget(x);
            });
        }
    }

    private static void change(CensoredThreads x, int kind) {
        switch (kind) {
            case 0: x.pass(7); break;
            case 1: x.burn(1); break;
            case 2: x.strike(3, 3); break;
            case 3: x.trade(0, 5); break;
            default: x.set(LIMIT, 8); break;
        }
    }

    private static void restoreReturns() {
        says("Returns the weeks then; BAD_VALUE if there is no such slot; NOT_POSSIBLE if nothing was saved in it.");
        CensoredThreads x = fresh();
        x.save(0);
        x.pass(5);
        x.save(1);
        x.pass(1);
        is("the week 0", x.restore(0), 0);
        is("the week 5", x.restore(1), 5);
        is("weeks", x.count(WEEKS), 5);
        passUpTo(x, 9999);
        x.save(0);
        is("back from the week 9999", x.restore(1), 5);
        is("a week passes there", x.pass(1), 0);
        is("the week 9999", x.restore(0), 9999);
        is("no week passes there", x.pass(1), TOO_MANY);
        for (int wrong : new int[] {-1, 2, 3, LOW, HIGH}) {
            is("restore(" + wrong + ")", x.restore(wrong), BAD_VALUE);
        }
    }

    private static void restoreNotPossible() {
        says("NOT_POSSIBLE if nothing was saved in it.");
        CensoredThreads x = fresh();
        is("the slot 0", x.restore(0), NOT_POSSIBLE);
        is("the slot 1", x.restore(1), NOT_POSSIBLE);
        x.save(1);
        is("the other one", x.restore(0), NOT_POSSIBLE);
        is("the one in which something was saved", x.restore(1), 0);
        x.undo();
        is("undo does not empty it", x.restore(1), 0);
        CensoredThreads y = fresh();
        y.save(0);
        is("the slot 1 behind save(0)", y.restore(1), NOT_POSSIBLE);
        y.save(2);
        is("save(2) saves nothing", y.restore(1), NOT_POSSIBLE);
    }

    private static void restoreKeeps() {
        says("Restores what was saved last in a slot, which keeps it.");
        CensoredThreads x = fresh();
        x.set(READS, 7);
        x.save(0);
        for (int i = 0; i < 3; i++) {
            x.set(READS, 1 + i);
            x.pass(1);
            is("again " + i, x.restore(0), 0);
            is("READS", x.count(READS), 7);
        }
        alike("twice or once", y -> {
            busy(y);
            y.restore(0);
            y.pass(4);
            y.restore(0);
            forget(y);
        }, y -> {
            busy(y);
            y.restore(0);
            forget(y);
        });
    }

    private static void restoreIsAChange() {
        says("Restores what was saved last in a slot, which keeps it. This is a change.");
        CensoredThreads x = fresh();
        x.save(0);
        x.pass(1);
        is("weeks", x.restore(0), 0);
        is("two changes", x.count(PAST), 2);
        is("undo of restore", x.undo(), 1);
        is("the week 1 again", x.count(WEEKS), 1);
    }

    private static void restoreLeavesPadAndHistory() {
        says("Saves everything except the pad, the history and the slots in a slot");
        CensoredThreads x = fresh();
        Due.putAll(x, "0>a");
        x.save(0);
        x.save(1);
        x.set(READS, 4);
        x.save(1);
        x.set(READS, 5);
        Due.putAll(x, ",1<b");
        x.restore(0);
        is("the pad stays", x.count(PAD), 7);
        is("the history goes on", x.count(PAST), 3);
        x.restore(1);
        is("the other slot stays", x.count(READS), 4);
        is("the text of the pad", x.read(), 2);
    }

    /** Letters with the same numbers as those of others, but alike in nothing else. */
    private static void some(CensoredThreads x) {
        allStrike(x, 'a');
        x.pass(2);
        write(x, "0<aab,4>aaa,1>abcdefgh,2<c,0>k");
        x.pass(1);
        x.untilCome(1);
        x.bestTrade();
        x.leastLimit();
    }

    private static void others(CensoredThreads x) {
        x.strike(2, 1);
        write(x, "3>zzb,1<y,0>aaa,2>bbb,1>q,4<r");
    }

    private static void othersLater(CensoredThreads x) {
        others(x);
        x.pass(3);
        x.untilCome(5);
    }

    /** What is left of history and slots is the state of now alone. */
    private static void nowAlone(CensoredThreads x) {
        x.save(0);
        x.save(1);
        forget(x);
    }

    private static void restoreOfOtherLetters() {
        says("Restores what was saved last in a slot, which keeps it.");
        alike("some letters behind others", x -> {
            x.save(1);
            some(x);
            x.save(0);
            x.restore(1);
            othersLater(x);
            x.restore(0);
            nowAlone(x);
        }, x -> {
            some(x);
            nowAlone(x);
        });
        alike("others behind some letters", x -> {
            x.save(1);
            othersLater(x);
            x.save(0);
            x.restore(1);
            some(x);
            x.restore(0);
            nowAlone(x);
        }, x -> {
            othersLater(x);
            nowAlone(x);
        });
    }

    private static void undoToOtherLetters() {
        says("everything except the pad, the slots and the history is as it was before it.");
        alike("undo of a restore", x -> {
            x.save(1);
            some(x);
            x.save(0);
            x.restore(1);
            othersLater(x);
            x.restore(0);
            x.undo();
            nowAlone(x);
        }, x -> {
            othersLater(x);
            nowAlone(x);
        });
    }

    private static void lettersWrittenAnew() {
        says("everything except the pad, the slots and the history is as it was before it.");
        CensoredThreads x = fresh();
        allStrike(x, 'a');
        write(x, "0>aab,1>aaa");
        x.pass(2);
        is("come", x.letter(0, WHERE), COME);
        is("burnt", x.letter(1, WHERE), BURNT);
        x.undo();
        x.undo();
        is("the letters are undone", x.count(LETTERS), 0);
        write(x, "2<abc,3<d");
        int[][] due = {{2, 1, WAITING, 0, 0, NONE, 0, 0, NONE, NONE, 3}, {3, 1, WAITING, 1, 0, NONE, 0, 0, NONE, NONE, 1}};
        for (int letter = 0; letter < 2; letter++) {
            for (int what = 0; what <= 10; what++) {
                is("written anew, letter(" + letter + ", " + what + ")", x.letter(letter, what), due[letter][what]);
            }
        }
        for (int place = 0; place < 3; place++) {
            is("written anew, word " + place, x.word(0, place), 'a' + place);
        }
        alike("written in a state that was restored", y -> {
            y.save(1);
            some(y);
            y.restore(1);
            others(y);
            nowAlone(y);
        }, y -> {
            others(y);
            nowAlone(y);
        });
    }
}
