import java.io.IOException;
import java.nio.file.Files;
import java.nio.file.Path;
import java.util.Collections;

/**
 * What the tests of single sentences share. Such a test first quotes its sentence, which must stand in
 * ../shared/DOC.md word for word: so a wrong answer is told with the sentence that it breaks.
 */
abstract class Sentences {
    static final int NO_SUCH = -1, BAD_VALUE = -2, BAD_TEXT = -3, TOO_MANY = -4, NOT_POSSIBLE = -5, NONE = -6;
    static final int READS = 0, LIMIT = 1, TURNS = 2;
    static final int LOW = Integer.MIN_VALUE, HIGH = Integer.MAX_VALUE;

    // What letter tells, and where a letter is.
    static final int THREAD = 0, PRISON = 1, WHERE = 2, PLACE = 3, WRITTEN = 4, DELAY = 5, STRUCK = 6, TURNED = 7,
        BY = 8, AHEAD = 9, WORDS = 10;
    static final int WAITING = 0, COME = 1, BURNT = 2;

    // What censor tells.
    static final int WORD_SET = 0, SHIFTS = 1, LETTERS_READ = 2, WORDS_STRUCK = 3, LETTERS_TURNED = 4;

    // What count tells, behind the settings.
    static final int WEEKS = 3, LETTERS = 4, ALL_WAITING = 5, ALL_COME = 6, ALL_BURNT = 7, ROW_0 = 8, ROW_1 = 9,
        ALL_DELAYS = 10, LONGEST_DELAY = 11, ALL_STRUCK = 12, WAITING_THREADS = 13, PAD = 14, PAST = 15;

    private static final Due due = new Due();
    private static final String document = documentInOneLine();
    private static String sentence = "";

    /** The document, "" if it is not there: then the answers alone are looked at. */
    static String documentInOneLine() {
        try {
            return Files.readString(Path.of("../shared/DOC.md")).replaceAll("\\s+", " ");
        } catch (IOException e) {
            System.out.println("no ../shared/DOC.md: the quotes are not looked up");
            return "";
        }
    }

    static void says(String quote) {
        sentence = quote;
        due.holds("DOC.md must say: " + quote, document.isEmpty() || document.contains(quote));
    }

    static void is(String call, long got, long want) {
        due.is("\"" + sentence + "\": " + call, got, want);
    }

    static void end(String test) {
        due.end(test);
    }

    static CensoredThreads fresh() {
        return new CensoredThreads();
    }

    static CensoredThreads written(String... texts) {
        return Due.withLetters(texts);
    }

    static int write(CensoredThreads x, String text) {
        Due.putAll(x, text);
        return x.read();
    }

    static void allStrike(CensoredThreads x, char word) {
        for (int censor = 0; censor < 4; censor++) {
            x.strike(censor, word - 'a');
        }
    }

    /** A text of so many letters alike. */
    static String times(int letters, String letter) {
        return String.join(",", Collections.nCopies(letters, letter));
    }

    /** Writes so many letters alike, ten a text. */
    static void writeMany(CensoredThreads x, int letters, String letter) {
        for (int left = letters; left > 0; left -= 10) {
            write(x, times(Math.min(left, 10), letter));
        }
    }

    static void passUpTo(CensoredThreads x, int week) {
        for (int left = week - x.count(WEEKS); left > 0; left -= 52) {
            x.pass(Math.min(left, 52));
        }
    }

    static void places(String when, CensoredThreads x, int... places) {
        for (int letter = 0; letter < places.length; letter++) {
            is(when + ", place of letter " + letter, x.letter(letter, PLACE), places[letter]);
        }
    }

    static void whys(String when, CensoredThreads x, int... whys) {
        for (int letter = 0; letter < whys.length; letter++) {
            is(when + ", why(" + letter + ")", x.why(letter), whys[letter]);
        }
    }
}
