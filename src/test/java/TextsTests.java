/** The sentences of "Texts" and of the promises 18 to 20 that name an edge. */
public final class TextsTests extends Sentences {
    public static void main(String[] args) {
        padOfSixty();
        letterOfText();
        faultIsTheFirst();
        faultOfAWholeText();
        faultOfEachStage();
        putOrder();
        putLengths();
        putZeros();
        putCodes();
        putRefuses();
        putTooMany();
        wipeReturns();
        faultReturns();
        end("TextsTests");
    }

    private static void faultOf(String text, int want) {
        CensoredThreads x = fresh();
        Due.putAll(x, text);
        is("fault of '" + text + "'", x.fault(), want);
        is("asked again", x.fault(), want);
        is("read of '" + text + "'", x.read(), want == NONE ? (int) text.chars().filter(s -> s == ',').count() + 1 : BAD_TEXT);
    }

    private static void padOfSixty() {
        says("The pad is a text of at most 60 characters");
        CensoredThreads x = fresh();
        for (int i = 1; i <= 60; i++) {
            is("put " + i, x.put('a'), i);
        }
        is("put 61", x.put('a'), TOO_MANY);
        is("60 stay", x.count(PAD), 60);
        String text = times(14, "0>a") + ",0>b";
        is("a whole text of 59", text.length(), 59);
        faultOf(text, NONE);
        faultOf(text + "b", NONE);
        faultOf(text + ",", 60);
        faultOf(text + ">", 59);
    }

    private static void letterOfText() {
        says("letters: text = letter { \",\" letter }; letter = thread way word { word }");
        faultOf("0>a", NONE);
        faultOf("0>a,1<b", NONE);
        faultOf("0>ab,1<bcdefghi,2>c", NONE);
        faultOf(",0>a", 0);
        faultOf("0>a,,1>a", 4);
        faultOf("0>a1>a", 3);
        faultOf("0,a", 1);
        faultOf("0>,1>a", 2);
        says("a thread is a digit 0 to 4, a way \">\" (from the prison 0) or \"<\" (from the prison 1), then 1 to 8 words, a to z.");
        for (char thread = 33; thread <= 126; thread++) {
            faultOf(thread + ">a", thread >= '0' && thread <= '4' ? NONE : 0);
        }
        for (char way = 33; way <= 126; way++) {
            faultOf("0" + way + "a", way == '<' || way == '>' ? NONE : 1);
        }
        for (char word = 33; word <= 126; word++) {
            boolean isWord = word >= 'a' && word <= 'z';
            faultOf("0>" + word, isWord ? NONE : 2);
            faultOf("0>abc" + word, isWord ? NONE : word == ',' ? 6 : 5);
            faultOf("0>abcdefg" + word, isWord ? NONE : word == ',' ? 10 : 9);
            faultOf("0>abcdefgh" + word, word == ',' ? 11 : 10);
        }
        CensoredThreads x = written("0>a,4<z");
        is("from the prison 0", x.letter(0, PRISON), 0);
        is("from the prison 1", x.letter(1, PRISON), 1);
    }

    private static void faultIsTheFirst() {
        says("The fault is the index of the first character that cannot stand at its place when the text is read from left to right");
        faultOf("5>a,5>a", 0);
        faultOf("0>a,5>a,5>a", 4);
        faultOf("0>A,5", 2);
        faultOf("0>a,0>b,0>c,0>d,0>e,0>f,0>g,0>h,0>i,0>j,0>k,0>l,0>m,0>n,0>o!", 59);
        faultOf("0>abcdefgh,0>abcdefgh,0>abcdefghi", 32);
        faultOf("0>abcdefgh,0>abcdefgh,0>abcdefgh", NONE);
    }

    private static void faultOfAWholeText() {
        says("if there is none and the text ends too early (also if it is empty), it is the length of the text.");
        faultOf("", 0);
        faultOf("0", 1);
        faultOf("0>", 2);
        faultOf("0>a,", 4);
        faultOf("0>a,1", 5);
        faultOf("0>a,1<", 6);
        faultOf("0>a,1<b", NONE);
        CensoredThreads x = written("0>a");
        is("a pad that was read", x.fault(), 0);
        Due.putAll(x, "0>a");
        x.wipe();
        is("a pad that was wiped", x.fault(), 0);
    }

    private static void faultOfEachStage() {
        says("The fault is the index of the first character that cannot stand at its place when the text is read from left to right");
        CensoredThreads x = fresh();
        int[] faults = {1, 2, NONE, NONE, 5, 6, 7, NONE, 8};
        String text = "0>ab,4<c>";
        for (int i = 0; i < text.length(); i++) {
            x.put(text.charAt(i));
            is("of '" + text.substring(0, i + 1) + "'", x.fault(), faults[i]);
        }
        x.put('d');
        is("it stays the first", x.fault(), 8);
    }

    private static void putOrder() {
        says("its lowest 8 bits are the last character, the next 8 bits the one before, and so on");
        CensoredThreads x = fresh();
        x.put('3' << 8 | '<');
        is("two", x.fault(), 2);
        x.put((long) 'a' << 48 | (long) 'b' << 40 | (long) 'c' << 32 | 'd' << 24 | 'e' << 16 | 'f' << 8 | 'g');
        x.put('h');
        is("read", x.read(), 1);
        is("thread", x.letter(0, THREAD), 3);
        is("prison", x.letter(0, PRISON), 1);
        for (int place = 0; place < 8; place++) {
            is("word " + place, x.word(0, place), 'a' + place);
        }
    }

    private static void putLengths() {
        says("1 to 8 characters");
        for (int length = 1; length <= 8; length++) {
            String text = "0>abcdef".substring(0, length);
            CensoredThreads x = fresh();
            is("put of " + text, x.put(Due.number(text)), length);
            is("fault of " + text, x.fault(), length < 3 ? length : NONE);
        }
        is("no character", fresh().put(0L), BAD_VALUE);
    }

    private static void putZeros() {
        says("8 bits that are 0 mean that there are no more characters, and everything above them has to be 0, too.");
        CensoredThreads x = fresh();
        long eight = Due.number("aaaaaaaa");
        for (int place = 0; place < 7; place++) {
            is("a hole at " + place, x.put(eight & ~(255L << (8 * place))), BAD_VALUE);
        }
        is("none above the seventh", x.put(eight & ~(255L << 56)), 7);
        for (int length = 1; length <= 6; length++) {
            for (int bit = 8 * length + 8; bit < 64; bit++) {
                is("the bit " + bit + " above " + length, x.put(Due.number("aaaaaa".substring(0, length)) | 1L << bit), BAD_VALUE);
            }
        }
        is("the pad stays", x.count(PAD), 7);
    }

    private static void putCodes() {
        says("BAD_VALUE if there is no character, a code is not 33 to 126, or a bit above 8 bits that are 0 is not 0");
        for (int code = 0; code < 256; code++) {
            boolean stands = code >= 33 && code <= 126;
            CensoredThreads x = fresh();
            is("code " + code, x.put(code), stands ? 1 : BAD_VALUE);
            for (int place = 0; place < 8; place++) {
                CensoredThreads y = fresh();
                long characters = Due.number("aaaaaaaa") & ~(255L << (8 * place)) | (long) code << (8 * place);
                int length = code == 0 && place == 7 ? 7 : stands ? 8 : BAD_VALUE;
                is("code " + code + " at " + place, y.put(characters), length);
            }
        }
    }

    private static void putRefuses() {
        says("BAD_VALUE if there is no character, a code is not 33 to 126, or a bit above 8 bits that are 0 is not 0");
        CensoredThreads x = fresh();
        for (long wrong : new long[] {0L, -1L, Long.MIN_VALUE, Long.MAX_VALUE, 1L << 32, 1L << 32 | 'a', 1L << 62, LOW, HIGH}) {
            is("put(" + wrong + ")", x.put(wrong), BAD_VALUE);
        }
        is("the pad stays", x.count(PAD), 0);
    }

    private static void putTooMany() {
        says("TOO_MANY if the pad would be longer than 60.");
        for (int length = 1; length <= 8; length++) {
            CensoredThreads x = fresh();
            for (int i = 0; i < 61 - length; i++) {
                x.put('a');
            }
            long characters = Due.number("bbbbbbbb".substring(0, length));
            is("61 with " + length, x.put(characters), TOO_MANY);
            is("none of them is put", x.count(PAD), 61 - length);
            x.wipe();
            for (int i = 0; i < 60 - length; i++) {
                x.put('a');
            }
            is("60 with " + length, x.put(characters), 60);
        }
    }

    private static void wipeReturns() {
        says("Empties the pad, and returns the length that it had.");
        CensoredThreads x = fresh();
        is("empty", x.wipe(), 0);
        x.put('!');
        is("one", x.wipe(), 1);
        is("empty then", x.count(PAD), 0);
        for (int i = 0; i < 60; i++) {
            x.put('a');
        }
        is("sixty", x.wipe(), 60);
        is("empty again", x.wipe(), 0);
        is("none of it is left", write(x, "0>b"), 1);
        is("one word", x.letter(0, WORDS), 1);
        is("that is put then", x.word(0, 0), 'b');
    }

    private static void faultReturns() {
        says("Returns the fault of the pad, NONE if there is none.");
        is("of an empty pad", fresh().fault(), 0);
        CensoredThreads x = fresh();
        Due.putAll(x, "4<z");
        is("none", x.fault(), NONE);
        Due.putAll(x, "5");
        is("a fault", x.fault(), 3);
        x.wipe();
        is("wiped", x.fault(), 0);
    }
}
