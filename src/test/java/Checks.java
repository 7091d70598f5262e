import java.util.Arrays;

/** What the tests share: counting wrong answers, and reading whole codes through the public face. */
final class Checks {
    /** Codes that do not exist. */
    static final int[] BAD_CODES = {-1, 2, 3, -1024, 1024, Integer.MIN_VALUE, Integer.MAX_VALUE};

    /** Numbers that are no weight, distance or position in any code. */
    static final int[] FAR_NUMBERS = {-1, -4, -1024, 1024, 1025, Integer.MIN_VALUE, Integer.MAX_VALUE};

    private static int wrong = 0;

    private Checks() {
    }

    static void due(String what, long got, long want) {
        if (got != want) {
            wrong++;
            System.out.println(what + " answered " + got + ", due is " + want);
        }
    }

    static void due(String what, String got, String want) {
        if (!got.equals(want)) {
            wrong++;
            System.out.println(what + " is " + got + ", due is " + want);
        }
    }

    /** Words that are out of the range of a new object of this length. */
    static int[] badWords(int n) {
        return new int[] {-1, 1 << n, (1 << n) + 1, 2048, Integer.MIN_VALUE, Integer.MAX_VALUE};
    }

    /** Places that are out of the range of a new object of this length. */
    static int[] badPlaces(int n) {
        return new int[] {-1, n, n + 1, 31, 32, 33, -32, Integer.MIN_VALUE, Integer.MAX_VALUE};
    }

    /** All words of a code, by has; it takes 2^n of the object's 512 calls. */
    static String words(LinearCodes x, int c) {
        StringBuilder words = new StringBuilder();
        int wordCount = 1 << x.length();
        for (int word = 0; word < wordCount; word++) {
            if (x.has(c, word) == 1) {
                words.append(words.length() == 0 ? "" : " ").append(word);
            }
        }
        return words.toString();
    }

    static String bothCodes(LinearCodes x) {
        return words(x, 0) + " | " + words(x, 1);
    }

    /** A new object of which the given words have been added to code 0. */
    static LinearCodes withCode(int length, int... words) {
        LinearCodes x = new LinearCodes(length);
        addAll(x, 0, words);
        return x;
    }

    static void addAll(LinearCodes x, int c, int... words) {
        Arrays.stream(words).forEach(word -> x.add(c, word));
    }

    static void end() {
        if (wrong != 0) {
            System.out.println(wrong + " answers are not as due");
            System.exit(1);
        }
    }
}
