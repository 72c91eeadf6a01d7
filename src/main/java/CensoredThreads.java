/**
 * Weekly letters of two prisons read by censors who trade shifts. The numbered promises that this
 * class keeps stand in ../shared/DOC.md, the part of Java that it keeps to in ../shared/LANGUAGE.md.
 */
public final class CensoredThreads {
    public static final int NO_SUCH = -1, BAD_VALUE = -2, BAD_TEXT = -3, TOO_MANY = -4, NOT_POSSIBLE = -5, NONE = -6;
    public static final int READS = 0, LIMIT = 1, TURNS = 2;

    private static final int PRISONS = 2;
    private static final int THREADS = 5;
    private static final int CENSORS = 4;
    private static final int ROSTER_WEEKS = 4;
    private static final int SHIFTS = ROSTER_WEEKS * PRISONS;
    private static final int ALPHABET = 26;
    private static final int SETTINGS = 3;
    private static final int SLOTS = 2;

    private static final int MOST_LETTERS = 40;
    private static final int MOST_WORDS = 8;
    private static final int MOST_WEEKS = 9999;
    private static final int MOST_PAD = 60;
    private static final int MOST_PUT = 8;
    private static final int MOST_PAST = 4;
    private static final int MOST_LIMIT = 8;
    private static final int LONGEST_PASS = 52;
    private static final int LONGEST_TRIAL = 100;
    private static final int TRADE_TRIAL = 4;

    private static final int[] LEAST_VALUES = {1, 0, 1};
    private static final int[] MOST_VALUES = {9, MOST_LIMIT, 5};

    // Where a letter is, as letter(n, 2) answers.
    private static final int WAITING = 0, COME = 1, BURNT = 2;

    // What a week does with a letter, as why(n) answers.
    private static final int COMES = 0, NOT_WAITING = 1, BLOCKED = 2, UNREAD = 3, TURNED_BACK = 4, BURNS = 5;

    // What may come next in a text; FIRST_WORD and above count the words of the letter so far.
    private static final int CANNOT_STAND = -1, THREAD = 0, WAY = 1, FIRST_WORD = 2;

    /** A letter. Its words are held in one number, 8 bits each, the first word in the lowest bits. */
    private static final class Letter {
        int thread;
        int prison;
        long words;
        int wordCount;
        int written;
        int where;
        int delay;
        int timesTurned;
        int struckPlaces;
        int passedBy;
        // What the week that was judged last does with it, while it waits; judged anew each time, so never copied.
        int fate;

        void begin(int itsThread, int week) {
            thread = itsThread;
            prison = 0;
            words = 0L;
            wordCount = 0;
            written = week;
            where = WAITING;
            delay = 0;
            timesTurned = 0;
            struckPlaces = 0;
            passedBy = NONE;
        }

        void copyFrom(Letter other) {
            thread = other.thread;
            prison = other.prison;
            words = other.words;
            wordCount = other.wordCount;
            written = other.written;
            where = other.where;
            delay = other.delay;
            timesTurned = other.timesTurned;
            struckPlaces = other.struckPlaces;
            passedBy = other.passedBy;
        }

        void addWord(int code) {
            if (wordCount < MOST_WORDS) {
                words = words | ((long) code << (8 * wordCount));
                wordCount++;
            }
        }

        int codeAt(int place) {
            return (int) (words >>> (8 * place)) & 255;
        }

        boolean isStruckAt(int place) {
            return ((struckPlaces >>> place) & 1) != 0;
        }

        int struckCount() {
            return Integer.bitCount(struckPlaces);
        }

        /** The places, as a set, whose words are among these. */
        int placesOf(int wordSet) {
            int places = 0;
            long rest = words;
            for (int place = 0; place < wordCount; place++) {
                int word = (int) (rest & 255L) - 'a';
                if (((wordSet >>> word) & 1) != 0) {
                    places = places | (1 << place);
                }
                rest = rest >>> 8;
            }
            return places;
        }
    }

    /** A censor, with what he or she has done so far. */
    private static final class Censor {
        int wordSet;
        int lettersRead;
        int wordsStruck;
        int lettersTurned;

        void copyFrom(Censor other) {
            wordSet = other.wordSet;
            lettersRead = other.lettersRead;
            wordsStruck = other.wordsStruck;
            lettersTurned = other.lettersTurned;
        }
    }

    /** The row of a prison: the numbers of its waiting letters, the first one ahead. */
    private static final class Row {
        final int[] numbers = new int[MOST_LETTERS];
        int length;

        void copyFrom(Row other) {
            length = other.length;
            System.arraycopy(other.numbers, 0, numbers, 0, length);
        }

        void append(int number) {
            if (length < numbers.length) {
                numbers[length] = number;
                length++;
            }
        }

        /** The place of a letter in this row, NONE if it is not in it. */
        int placeOf(int number) {
            for (int place = 0; place < length; place++) {
                if (numbers[place] == number) {
                    return place;
                }
            }
            return NONE;
        }

        void takeOut(int number) {
            int kept = 0;
            for (int place = 0; place < length; place++) {
                if (numbers[place] != number) {
                    numbers[kept] = numbers[place];
                    kept++;
                }
            }
            length = kept;
        }
    }

    /** All that undo, save and restore bring back: settings, censors, roster, letters, rows, weeks. */
    private static final class Prisons {
        final int[] settings = {3, 2, 2};
        final Censor[] censors = new Censor[CENSORS];
        final int[] roster = new int[SHIFTS];
        final Letter[] letters = new Letter[MOST_LETTERS];
        final Row[] rows = new Row[PRISONS];
        // Room for the work of a week, made once: the row that comes of it, and each thread's first waiting letter.
        final Row nextRow = new Row();
        final int[] heads = new int[THREADS];
        int letterCount;
        int weeks;

        Prisons() {
            for (int i = 0; i < CENSORS; i++) {
                censors[i] = new Censor();
            }
            for (int i = 0; i < SHIFTS; i++) {
                roster[i] = (i / PRISONS + i % PRISONS) % CENSORS;
            }
            for (int i = 0; i < MOST_LETTERS; i++) {
                letters[i] = new Letter();
            }
            for (int i = 0; i < PRISONS; i++) {
                rows[i] = new Row();
            }
        }

        void copyFrom(Prisons other) {
            System.arraycopy(other.settings, 0, settings, 0, SETTINGS);
            System.arraycopy(other.roster, 0, roster, 0, SHIFTS);
            for (int i = 0; i < CENSORS; i++) {
                censors[i].copyFrom(other.censors[i]);
            }
            for (int i = 0; i < other.letterCount; i++) {
                letters[i].copyFrom(other.letters[i]);
            }
            for (int i = 0; i < PRISONS; i++) {
                rows[i].copyFrom(other.rows[i]);
            }
            letterCount = other.letterCount;
            weeks = other.weeks;
        }

        boolean hasLetter(int number) {
            return number >= 0 && number < letterCount;
        }

        /** A letter with this thread and no words yet, in no row; null if there is no room for one. */
        Letter beginLetter(int thread) {
            if (letterCount >= MOST_LETTERS) {
                return null;
            }
            Letter letter = letters[letterCount];
            letter.begin(thread, weeks);
            letterCount++;
            return letter;
        }

        /** Puts the letter that was begun last at the end of the row of its prison. */
        void sendNewest(int prison) {
            if (letterCount > 0) {
                letters[letterCount - 1].prison = prison;
                rows[prison].append(letterCount - 1);
            }
        }

        void burnWaiting(int number) {
            letters[number].where = BURNT;
            rows[letters[number].prison].takeOut(number);
        }

        void tradeShifts(int one, int other) {
            int censor = roster[one];
            roster[one] = roster[other];
            roster[other] = censor;
        }

        int censorNumber(int week, int prison) {
            return roster[PRISONS * (week % ROSTER_WEEKS) + prison];
        }

        int shiftsOf(int censor) {
            int shifts = 0;
            for (int i = 0; i < SHIFTS; i++) {
                if (roster[i] == censor) {
                    shifts++;
                }
            }
            return shifts;
        }

        /** The letter ahead of a letter in its thread, NONE if it is the first one. */
        int aheadOf(int number) {
            for (int i = number - 1; i >= 0; i--) {
                if (letters[i].thread == letters[number].thread) {
                    return i;
                }
            }
            return NONE;
        }

        int lettersThatAre(int where) {
            int found = 0;
            for (int i = 0; i < letterCount; i++) {
                if (letters[i].where == where) {
                    found++;
                }
            }
            return found;
        }

        int allDelays() {
            int sum = 0;
            for (int i = 0; i < letterCount; i++) {
                if (letters[i].where == COME) {
                    sum += letters[i].delay;
                }
            }
            return sum;
        }

        int longestDelay() {
            int longest = 0;
            for (int i = 0; i < letterCount; i++) {
                if (letters[i].where == COME) {
                    longest = Math.max(longest, letters[i].delay);
                }
            }
            return longest;
        }

        int wordsStruckInLetters() {
            int sum = 0;
            for (int i = 0; i < letterCount; i++) {
                if (letters[i].where == COME) {
                    sum += letters[i].struckCount();
                }
            }
            return sum;
        }

        int threadsThatWait() {
            findHeads();
            int found = 0;
            for (int i = 0; i < THREADS; i++) {
                if (heads[i] != NONE) {
                    found++;
                }
            }
            return found;
        }

        int lettersTurnedByAll() {
            int sum = 0;
            for (int i = 0; i < CENSORS; i++) {
                sum += censors[i].lettersTurned;
            }
            return sum;
        }

        /** Finds each thread's first letter that waits: of a thread's waiting letters it alone can be read. */
        void findHeads() {
            for (int i = 0; i < THREADS; i++) {
                heads[i] = NONE;
            }
            for (int prison = 0; prison < PRISONS; prison++) {
                findHeadsIn(rows[prison]);
            }
        }

        void findHeadsIn(Row row) {
            for (int place = 0; place < row.length; place++) {
                int number = row.numbers[place];
                int thread = letters[number].thread;
                if (heads[thread] == NONE || heads[thread] > number) {
                    heads[thread] = number;
                }
            }
        }

        /** Finds the fate of every waiting letter in this week, and lets nothing of it happen. */
        void judgeWeek() {
            findHeads();
            for (int prison = 0; prison < PRISONS; prison++) {
                judgeRow(prison);
            }
        }

        void judgeRow(int prison) {
            Row row = rows[prison];
            int wordSet = censors[censorNumber(weeks, prison)].wordSet;
            int reads = 0;
            for (int place = 0; place < row.length; place++) {
                int number = row.numbers[place];
                Letter letter = letters[number];
                if (heads[letter.thread] != number) {
                    letter.fate = BLOCKED;
                } else if (reads >= settings[READS]) {
                    letter.fate = UNREAD;
                } else {
                    letter.fate = fateIfRead(letter, wordSet);
                    reads++;
                }
            }
        }

        int fateIfRead(Letter letter, int wordSet) {
            if (Integer.bitCount(letter.placesOf(wordSet)) <= settings[LIMIT]) {
                return COMES;
            }
            return letter.timesTurned + 1 >= settings[TURNS] ? BURNS : TURNED_BACK;
        }

        /** Lets weeks pass, and returns how many letters come in them. */
        int passWeeks(int howMany) {
            int come = 0;
            for (int i = 0; i < howMany; i++) {
                come += passWeek();
            }
            return come;
        }

        int passWeek() {
            // Both rows are judged before either changes: a letter waits for those that waited when the week began.
            judgeWeek();
            int come = 0;
            for (int prison = 0; prison < PRISONS; prison++) {
                come += readRow(prison);
            }
            weeks++;
            return come;
        }

        /** Lets the fates of the letters of a row happen, and returns how many of them come. */
        int readRow(int prison) {
            Row row = rows[prison];
            int censor = censorNumber(weeks, prison);
            int come = 0;
            for (int place = 0; place < row.length; place++) {
                Letter letter = letters[row.numbers[place]];
                if (letter.fate == COMES) {
                    letThrough(letter, censor);
                    come++;
                } else if (letter.fate == TURNED_BACK || letter.fate == BURNS) {
                    turnBack(letter, censor);
                }
            }
            nextRow.length = 0;
            appendIfFate(row, BLOCKED, UNREAD);
            appendIfFate(row, TURNED_BACK, TURNED_BACK);
            row.copyFrom(nextRow);
            return come;
        }

        /** Appends the letters of a row that have one of two fates to the row of the next week. */
        void appendIfFate(Row row, int fate, int otherFate) {
            for (int place = 0; place < row.length; place++) {
                int itsFate = letters[row.numbers[place]].fate;
                if (itsFate == fate || itsFate == otherFate) {
                    nextRow.append(row.numbers[place]);
                }
            }
        }

        void letThrough(Letter letter, int censor) {
            letter.struckPlaces = letter.placesOf(censors[censor].wordSet);
            letter.where = COME;
            letter.delay = weeks + 1 - letter.written;
            letter.passedBy = censor;
            censors[censor].lettersRead++;
            censors[censor].wordsStruck += letter.struckCount();
        }

        void turnBack(Letter letter, int censor) {
            letter.timesTurned++;
            if (letter.fate == BURNS) {
                letter.where = BURNT;
            }
            censors[censor].lettersRead++;
            censors[censor].lettersTurned++;
        }
    }

    private final Prisons now = new Prisons();
    // The prisons in which what-if questions are tried out.
    private final Prisons trial = new Prisons();
    private final Prisons[] past = new Prisons[MOST_PAST];
    private final Prisons[] slots = new Prisons[SLOTS];
    private final boolean[] slotUsed = new boolean[SLOTS];
    private final char[] pad = new char[MOST_PAD];
    private int pastCount;
    private int padLength;

    public CensoredThreads() {
        for (int i = 0; i < MOST_PAST; i++) {
            past[i] = new Prisons();
        }
        for (int i = 0; i < SLOTS; i++) {
            slots[i] = new Prisons();
        }
    }

    // ---- changes

    public int set(int setting, int value) {
        if (setting < 0 || setting >= SETTINGS) {
            return BAD_VALUE;
        }
        if (value < LEAST_VALUES[setting] || value > MOST_VALUES[setting]) {
            return BAD_VALUE;
        }
        remember();
        int previous = now.settings[setting];
        now.settings[setting] = value;
        return previous;
    }

    public int strike(int censor, int word) {
        if (censor < 0 || censor >= CENSORS || word < 0 || word >= ALPHABET) {
            return NO_SUCH;
        }
        remember();
        Censor whose = now.censors[censor];
        whose.wordSet = whose.wordSet ^ (1 << word);
        return Integer.bitCount(whose.wordSet);
    }

    public int trade(int one, int other) {
        if (one < 0 || one >= SHIFTS || other < 0 || other >= SHIFTS) {
            return NO_SUCH;
        }
        if (now.roster[one] == now.roster[other]) {
            return NOT_POSSIBLE;
        }
        remember();
        now.tradeShifts(one, other);
        return now.roster[one];
    }

    public int read() {
        if (faultOfPad() != NONE) {
            return BAD_TEXT;
        }
        if (now.letterCount + lettersOfPad() > MOST_LETTERS) {
            return TOO_MANY;
        }
        remember();
        writeLettersOfPad();
        padLength = 0;
        return now.letterCount;
    }

    public int burn(int letter) {
        if (!now.hasLetter(letter)) {
            return NO_SUCH;
        }
        if (now.letters[letter].where != WAITING) {
            return NOT_POSSIBLE;
        }
        remember();
        now.burnWaiting(letter);
        return now.weeks - now.letters[letter].written;
    }

    public int pass(int weeks) {
        if (weeks < 1 || weeks > LONGEST_PASS) {
            return BAD_VALUE;
        }
        if (now.weeks + weeks > MOST_WEEKS) {
            return TOO_MANY;
        }
        remember();
        return now.passWeeks(weeks);
    }

    // ---- what there is; nothing changes

    public int letter(int letter, int what) {
        if (!now.hasLetter(letter)) {
            return NO_SUCH;
        }
        Letter which = now.letters[letter];
        switch (what) {
            case 0: return which.thread;
            case 1: return which.prison;
            case 2: return which.where;
            case 3: return now.rows[which.prison].placeOf(letter);
            case 4: return which.written;
            case 5: return which.where == COME ? which.delay : NONE;
            case 6: return which.struckCount();
            case 7: return which.timesTurned;
            case 8: return which.passedBy;
            case 9: return now.aheadOf(letter);
            case 10: return which.wordCount;
            default: return BAD_VALUE;
        }
    }

    public int word(int letter, int place) {
        if (!now.hasLetter(letter)) {
            return NO_SUCH;
        }
        Letter which = now.letters[letter];
        if (place < 0 || place >= which.wordCount) {
            return NO_SUCH;
        }
        return which.isStruckAt(place) ? '*' : which.codeAt(place);
    }

    public int why(int letter) {
        if (!now.hasLetter(letter)) {
            return NO_SUCH;
        }
        Letter which = now.letters[letter];
        if (which.where != WAITING) {
            return NOT_WAITING;
        }
        now.judgeWeek();
        return which.fate;
    }

    public int censor(int censor, int what) {
        if (censor < 0 || censor >= CENSORS) {
            return NO_SUCH;
        }
        Censor which = now.censors[censor];
        switch (what) {
            case 0: return which.wordSet;
            case 1: return now.shiftsOf(censor);
            case 2: return which.lettersRead;
            case 3: return which.wordsStruck;
            case 4: return which.lettersTurned;
            default: return BAD_VALUE;
        }
    }

    public int onShift(int week, int prison) {
        if (prison < 0 || prison >= PRISONS) {
            return NO_SUCH;
        }
        if (week < 0 || week > MOST_WEEKS) {
            return BAD_VALUE;
        }
        return now.censorNumber(week, prison);
    }

    public int count(int what) {
        switch (what) {
            case 0: return now.settings[READS];
            case 1: return now.settings[LIMIT];
            case 2: return now.settings[TURNS];
            case 3: return now.weeks;
            case 4: return now.letterCount;
            case 5: return now.lettersThatAre(WAITING);
            case 6: return now.lettersThatAre(COME);
            case 7: return now.lettersThatAre(BURNT);
            case 8: return now.rows[0].length;
            case 9: return now.rows[1].length;
            case 10: return now.allDelays();
            case 11: return now.longestDelay();
            case 12: return now.wordsStruckInLetters();
            case 13: return now.threadsThatWait();
            case 14: return padLength;
            case 15: return pastCount;
            default: return BAD_VALUE;
        }
    }

    // ---- what if; nothing changes

    public int untilCome(int letter) {
        if (!now.hasLetter(letter)) {
            return NO_SUCH;
        }
        trial.copyFrom(now);
        Letter which = trial.letters[letter];
        int passed = 0;
        while (passed < LONGEST_TRIAL && which.where == WAITING) {
            trial.passWeek();
            passed++;
        }
        return which.where == COME ? passed : NONE;
    }

    public int ifPassed(int weeks, int what) {
        if (weeks < 1 || weeks > LONGEST_TRIAL || what < 0 || what > 2) {
            return BAD_VALUE;
        }
        trial.copyFrom(now);
        int come = trial.passWeeks(weeks);
        switch (what) {
            case 0: return come;
            case 1: return trial.lettersThatAre(BURNT) - now.lettersThatAre(BURNT);
            default: return trial.wordsStruckInLetters() - now.wordsStruckInLetters();
        }
    }

    public int bestTrade() {
        trial.copyFrom(now);
        int most = trial.passWeeks(TRADE_TRIAL);
        int best = NONE;
        for (int one = 0; one < SHIFTS; one++) {
            for (int other = one + 1; other < SHIFTS; other++) {
                trial.copyFrom(now);
                trial.tradeShifts(one, other);
                int come = trial.passWeeks(TRADE_TRIAL);
                if (come > most) {
                    most = come;
                    best = SHIFTS * one + other;
                }
            }
        }
        return best;
    }

    public int leastLimit() {
        int limit = 0;
        while (limit < MOST_LIMIT && turnsBackWith(limit)) {
            limit++;
        }
        return limit;
    }

    /** Whether some letter is turned back in the next weeks with this LIMIT. */
    private boolean turnsBackWith(int limit) {
        trial.copyFrom(now);
        trial.settings[LIMIT] = limit;
        int turnedBefore = trial.lettersTurnedByAll();
        for (int i = 0; i < LONGEST_TRIAL; i++) {
            trial.passWeek();
            if (trial.lettersTurnedByAll() > turnedBefore) {
                return true;
            }
        }
        return false;
    }

    // ---- texts

    public int put(long characters) {
        int length = lengthOf(characters);
        if (length == 0) {
            return BAD_VALUE;
        }
        if (padLength + length > MOST_PAD) {
            return TOO_MANY;
        }
        for (int i = length - 1; i >= 0; i--) {
            pad[padLength] = (char) ((characters >>> (8 * i)) & 255L);
            padLength++;
        }
        return padLength;
    }

    /** How many characters are given, 0 if any of them, or what stands above them, is wrong. */
    private static int lengthOf(long characters) {
        int length = 0;
        long rest = characters;
        while (length < MOST_PUT && rest != 0L) {
            int code = (int) (rest & 255L);
            // A code 0 with more above it is refused here, too.
            if (code < 33 || code > 126) {
                return 0;
            }
            rest = rest >>> 8;
            length++;
        }
        return length;
    }

    public int wipe() {
        int length = padLength;
        padLength = 0;
        return length;
    }

    public int fault() {
        return faultOfPad();
    }

    private int faultOfPad() {
        int stage = THREAD;
        for (int i = 0; i < padLength; i++) {
            stage = stageBehind(stage, pad[i]);
            if (stage == CANNOT_STAND) {
                return i;
            }
        }
        return stage > FIRST_WORD ? NONE : padLength;
    }

    /** What may come next behind a character that stands at a stage of the text. */
    private static int stageBehind(int stage, char sign) {
        if (stage == THREAD) {
            return sign >= '0' && sign < '0' + THREADS ? WAY : CANNOT_STAND;
        }
        if (stage == WAY) {
            return sign == '>' || sign == '<' ? FIRST_WORD : CANNOT_STAND;
        }
        if (isWord(sign)) {
            return stage < FIRST_WORD + MOST_WORDS ? stage + 1 : CANNOT_STAND;
        }
        return sign == ',' && stage > FIRST_WORD ? THREAD : CANNOT_STAND;
    }

    private static boolean isWord(char sign) {
        return sign >= 'a' && sign <= 'z';
    }

    /** How many letters a pad without a fault holds. */
    private int lettersOfPad() {
        int letters = 1;
        for (int i = 0; i < padLength; i++) {
            if (pad[i] == ',') {
                letters++;
            }
        }
        return letters;
    }

    /** Writes the letters of a pad that has no fault, so that each sign alone tells what it is. */
    private void writeLettersOfPad() {
        Letter open = null;
        for (int i = 0; i < padLength; i++) {
            char sign = pad[i];
            if (isWord(sign)) {
                if (open != null) {
                    open.addWord(sign);
                }
            } else if (sign == '>') {
                now.sendNewest(0);
            } else if (sign == '<') {
                now.sendNewest(1);
            } else if (sign != ',') {
                open = now.beginLetter(sign - '0');
            }
        }
    }

    // ---- undo, saving

    public int undo() {
        if (pastCount == 0) {
            return NOT_POSSIBLE;
        }
        pastCount--;
        now.copyFrom(past[pastCount]);
        return pastCount;
    }

    public int save(int slot) {
        if (slot < 0 || slot >= SLOTS) {
            return BAD_VALUE;
        }
        slots[slot].copyFrom(now);
        slotUsed[slot] = true;
        return now.weeks;
    }

    public int restore(int slot) {
        if (slot < 0 || slot >= SLOTS) {
            return BAD_VALUE;
        }
        if (!slotUsed[slot]) {
            return NOT_POSSIBLE;
        }
        remember();
        now.copyFrom(slots[slot]);
        return now.weeks;
    }

    /** Records the state ahead of a change; of a full history the oldest state is dropped, and its room used again. */
    private void remember() {
        if (pastCount == MOST_PAST) {
            Prisons oldest = past[0];
            for (int i = 1; i < MOST_PAST; i++) {
                past[i - 1] = past[i];
            }
            past[MOST_PAST - 1] = oldest;
            pastCount--;
        }
        past[pastCount].copyFrom(now);
        pastCount++;
    }
}
