/** What the tests share: answers that are due, counted, and texts put on the pad. */
final class Due {
    private int passed = 0;
    private int failed = 0;

    void is(String call, long got, long want) {
        if (got == want) {
            passed++;
        } else {
            failed++;
            System.out.println(call + " answered " + got + ", due is " + want);
        }
    }

    void holds(String claim, boolean isSo) {
        is(claim, isSo ? 1 : 0, 1);
    }

    int failures() {
        return failed;
    }

    /** Ends the test: its counts, and exit code 1 if an answer was wrong. */
    void end(String test) {
        System.out.println(test + ": " + passed + " passed, " + failed + " failed");
        if (failed != 0) {
            System.exit(1);
        }
    }

    /** Characters as the number that put takes, at most eight of them. */
    static long number(String characters) {
        long number = 0;
        for (int i = 0; i < characters.length(); i++) {
            number = (number << 8) | characters.charAt(i);
        }
        return number;
    }

    /** Puts a whole text, eight characters a call, and returns the last answer. */
    static int putAll(CensoredThreads x, String text) {
        int answer = x.count(14);
        for (int i = 0; i < text.length(); i += 8) {
            answer = x.put(number(text.substring(i, Math.min(text.length(), i + 8))));
        }
        return answer;
    }

    /** A new object whose pad was read from these texts, one read a text. */
    static CensoredThreads withLetters(String... texts) {
        CensoredThreads x = new CensoredThreads();
        for (String text : texts) {
            putAll(x, text);
            x.read();
        }
        return x;
    }
}
