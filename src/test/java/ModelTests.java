/** Long runs of calls, made from fixed seeds, in which CensoredThreads and Model must answer alike: 512 calls at most. */
public final class ModelTests {
    private static final int RUNS = 2000;
    private static final int MOST_CALLS = 512;
    // More than the longest step makes: all that can be asked of the censors is 24 calls.
    private static final int CALLS_A_STEP = 32;
    private static final int[] EDGES = {-1, Integer.MIN_VALUE, Integer.MAX_VALUE};

    private final Due due;
    private final CensoredThreads x = new CensoredThreads();
    private final Model m = new Model();
    private final int run;
    private long seed;
    private int calls = 0;

    private ModelTests(Due due, int run) {
        this.due = due;
        this.run = run;
        this.seed = 7919L * run + 17;
    }

    public static void main(String[] args) {
        Due due = new Due();
        for (int run = 0; run < RUNS && due.failures() < 20; run++) {
            new ModelTests(due, run).steps();
        }
        due.end("ModelTests");
    }

    private int below(int bound) {
        seed = seed * 6364136223846793005L + 1442695040888963407L;
        return (int) ((seed >>> 33) % bound);
    }

    /** Mostly 0 to bound - 1, now and then bound itself or a value far off. */
    private int about(int bound) {
        int pick = below(40);
        return pick == 0 ? bound : pick == 1 ? EDGES[below(3)] : below(bound);
    }

    private int aLetter() {
        return about(Math.max(1, m.count(4)));
    }

    private void steps() {
        // Some runs begin with many words to strike, so that letters are turned back and burnt.
        for (int i = below(30); i > 0; i--) {
            int censor = below(4);
            int word = below(5);
            same("strike", x.strike(censor, word), m.strike(censor, word));
        }
        while (calls <= MOST_CALLS - CALLS_A_STEP) {
            if (below(2) == 0) {
                change(below(24));
            } else {
                question(below(24));
            }
        }
    }

    private void change(int kind) {
        int a;
        int b;
        switch (kind) {
            case 0: a = about(3); b = about(10); same("set " + a + " " + b, x.set(a, b), m.set(a, b)); break;
            case 1: case 2: a = about(4); b = below(2) == 0 ? below(5) : about(26); same("strike " + a + " " + b, x.strike(a, b), m.strike(a, b)); break;
            case 3: case 4: a = about(8); b = about(8); same("trade " + a + " " + b, x.trade(a, b), m.trade(a, b)); break;
            case 5: a = aLetter(); same("burn " + a, x.burn(a), m.burn(a)); break;
            case 6: a = about(53); same("pass " + a, x.pass(a), m.pass(a)); break;
            case 7: case 8: case 9: case 10: case 11: a = 1 + below(3); same("pass " + a, x.pass(a), m.pass(a)); break;
            case 12: same("undo", x.undo(), m.undo()); break;
            case 13: a = about(2); same("save " + a, x.save(a), m.save(a)); break;
            case 14: a = about(2); same("restore " + a, x.restore(a), m.restore(a)); break;
            case 15: same("wipe", x.wipe(), m.wipe()); break;
            case 16: anyPut(); break;
            case 17: same("read", x.read(), m.read()); break;
            default: writeLetters(); break;
        }
    }

    private void anyPut() {
        long characters = 0;
        for (int i = below(9); i > 0; i--) {
            characters = characters << 8 | (below(20) == 0 ? below(256) : "01234<>,abz59A`{".charAt(below(16)));
        }
        same("put " + characters, x.put(characters), m.put(characters));
        same("fault", x.fault(), m.fault());
    }

    private void writeLetters() {
        StringBuilder text = new StringBuilder();
        int letters = 1 + below(6);
        for (int i = 0; i < letters; i++) {
            text.append(i == 0 ? "" : ",").append((char) ('0' + below(5))).append(below(2) == 0 ? '<' : '>');
            for (int w = below(8); w >= 0; w--) {
                text.append((char) ('a' + below(below(3) == 0 ? 26 : 5)));
            }
        }
        if (below(3) > 0) {
            same("wipe", x.wipe(), m.wipe());
        }
        for (int i = 0; i < text.length(); i += 8) {
            long characters = Due.number(text.substring(i, Math.min(text.length(), i + 8)));
            same("put " + characters, x.put(characters), m.put(characters));
        }
        same("fault", x.fault(), m.fault());
        same("read", x.read(), m.read());
    }

    private void question(int kind) {
        int a = aLetter();
        int b;
        switch (kind) {
            case 0: case 1: case 2: b = about(11); same("letter " + a + " " + b, x.letter(a, b), m.letter(a, b)); break;
            case 3: b = about(9); same("word " + a + " " + b, x.word(a, b), m.word(a, b)); break;
            case 4: case 5: case 6: same("why " + a, x.why(a), m.why(a)); break;
            case 7: a = about(4); b = about(5); same("censor " + a + " " + b, x.censor(a, b), m.censor(a, b)); break;
            case 8: a = about(10000); b = about(2); same("onShift " + a + " " + b, x.onShift(a, b), m.onShift(a, b)); break;
            case 9: a = about(16); same("count " + a, x.count(a), m.count(a)); break;
            case 10: case 11: case 12: same("untilCome " + a, x.untilCome(a), m.untilCome(a)); break;
            case 13: case 14: a = about(101); b = about(3); same("ifPassed " + a + " " + b, x.ifPassed(a, b), m.ifPassed(a, b)); break;
            case 15: a = 1 + below(6); b = below(3); same("ifPassed " + a + " " + b, x.ifPassed(a, b), m.ifPassed(a, b)); break;
            case 16: case 17: case 18: same("bestTrade", x.bestTrade(), m.bestTrade()); break;
            case 19: case 20: same("leastLimit", x.leastLimit(), m.leastLimit()); break;
            case 21: allCounts(); break;
            case 22: allOfCensors(); break;
            default: allOfLetter(a); break;
        }
    }

    private void allCounts() {
        for (int what = 0; what < 16; what++) {
            same("count " + what, x.count(what), m.count(what));
        }
    }

    private void allOfCensors() {
        for (int censor = 0; censor < 4; censor++) {
            for (int what = 0; what < 5; what++) {
                same("censor " + censor + " " + what, x.censor(censor, what), m.censor(censor, what));
            }
            same("onShift " + censor, x.onShift(censor, 0), m.onShift(censor, 0));
        }
    }

    private void allOfLetter(int letter) {
        same("why " + letter, x.why(letter), m.why(letter));
        for (int what = 0; what < 11; what++) {
            same("letter " + letter + " " + what, x.letter(letter, what), m.letter(letter, what));
        }
        for (int place = 0; place < 9; place++) {
            same("word " + letter + " " + place, x.word(letter, place), m.word(letter, place));
        }
    }

    private void same(String call, long got, long want) {
        calls++;
        due.is("run " + run + ": " + call, got, want);
    }
}
