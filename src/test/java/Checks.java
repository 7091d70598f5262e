import java.util.Arrays;
import java.util.function.IntConsumer;
import java.util.stream.IntStream;

/** What the tests share: counting wrong answers, making codes, and reading them through the public face. */
final class Checks {
    private static final int LEAST_LENGTH = 2;
    private static final int GREATEST_LENGTH = 10;

    /** Codes that do not exist; those near 2^22 would wrap round to 0 and 1 where a code's number is scaled. */
    static final int[] BAD_CODES = {
        -1, 2, 3, -2, -1024, 1024, 1 << 22, (1 << 22) + 1, Integer.MIN_VALUE, Integer.MIN_VALUE + 1, Integer.MAX_VALUE};

    /** Numbers that are no weight, distance or position in any code. */
    static final int[] FAR_NUMBERS = {-1, -4, -1024, 1024, 1025, Integer.MIN_VALUE, Integer.MAX_VALUE};

    private static int wrong = 0;
    private static String sentence = "";

    private Checks() {
    }

    static void due(String what, long got, long want) {
        if (got != want) {
            tellWrong(what + " answered " + got + ", due is " + want);
        }
    }

    static void due(String what, String got, String want) {
        if (!got.equals(want)) {
            tellWrong(what + " is " + got + ", due is " + want);
        }
    }

    /** The test of one sentence of the document. If it throws, the sentence fails and the next one is still tested. */
    static void sentence(String words, Runnable test) {
        sentence = "\"" + words + "\": ";
        try {
            test.run();
        } catch (RuntimeException | StackOverflowError thrown) {
            tellWrong("threw " + thrown);
        }
        sentence = "";
    }

    static void forEachLength(IntConsumer test) {
        IntStream.rangeClosed(LEAST_LENGTH, GREATEST_LENGTH).forEach(test);
    }

    private static void tellWrong(String what) {
        wrong++;
        System.out.println(sentence + what);
    }

    /** Words that are out of the range of a new object of this length; some would be in it if cut to n bits. */
    static int[] badWords(int n) {
        return new int[] {
            -1, 1 << n, (1 << n) + 1, -(1 << n), 2048, (1 << 16) + 1, Integer.MIN_VALUE, Integer.MIN_VALUE + 1,
            Integer.MAX_VALUE};
    }

    /** Places that are out of the range of a new object of this length; Java's shifts would take 32 for 0. */
    static int[] badPlaces(int n) {
        return new int[] {-1, n, n + 1, 31, 32, 33, -31, -32, Integer.MIN_VALUE, Integer.MAX_VALUE};
    }

    /** All words of a code, by has; it takes 2^n of the object's 512 calls. */
    static String words(LinearCodes x, int c) {
        StringBuilder words = new StringBuilder();
        int wordCount = 1 << x.length();
        for (int word = 0; word < wordCount; word++) {
            if (x.has(c, word) == 1) {
                words.append(words.length() == 0 ? "" : " ").append(word);
            }
        }
        return words.toString();
    }

    static String bothCodes(LinearCodes x) {
        return words(x, 0) + " | " + words(x, 1);
    }

    /**
     * The length, and of each code the dimension and the words at 1, 2, 4 and so on, of which all its words are
     * sums: few enough calls for the longest words.
     */
    static String picture(LinearCodes x) {
        StringBuilder picture = new StringBuilder("length " + x.length());
        for (int c = 0; c <= 1; c++) {
            int dimension = x.dimension(c);
            picture.append(", dimension ").append(dimension).append(" of");
            for (int j = 0; j < dimension; j++) {
                picture.append(' ').append(x.wordAt(c, 1 << j));
            }
        }
        return picture.toString();
    }

    /** A new object of which the given words have been added to code 0. */
    static LinearCodes withCode(int length, int... words) {
        LinearCodes x = new LinearCodes(length);
        addAll(x, 0, words);
        return x;
    }

    /** A new object of which the given words have been added to both codes. */
    static LinearCodes withCodes(int length, int[] words0, int[] words1) {
        LinearCodes x = withCode(length, words0);
        addAll(x, 1, words1);
        return x;
    }

    static void addAll(LinearCodes x, int c, int... words) {
        Arrays.stream(words).forEach(word -> x.add(c, word));
    }

    static int greatestWord(int n) {
        return (1 << n) - 1;
    }

    /** Of these words the code of all words is made, the fullest one. */
    static int[] unitWords(int n) {
        int[] words = new int[n];
        for (int place = 0; place < n; place++) {
            words[place] = 1 << place;
        }
        return words;
    }

    /** Of these words the code of all words of even weight is made. */
    static int[] evenWords(int n) {
        int[] words = new int[n - 1];
        for (int place = 0; place < n - 1; place++) {
            words[place] = 3 << place;
        }
        return words;
    }

    /** What to add for codes of many kinds: the emptiest, some between, and the fullest. */
    static int[][] kindsOfCodes(int n) {
        return new int[][] {
            {}, {greatestWord(n)}, {1}, {1 << (n - 1)}, {1, greatestWord(n)}, evenWords(n), unitWords(n)};
    }

    /** How many words of n bits have weight w. */
    static int wordsOfWeight(int n, int w) {
        int count = 0;
        for (int word = 0; word < 1 << n; word++) {
            count += Integer.bitCount(word) == w ? 1 : 0;
        }
        return count;
    }

    static void end() {
        if (wrong != 0) {
            System.out.println(wrong + " answers are not as due");
            System.exit(1);
        }
    }
}
