import java.util.ArrayList;
import java.util.List;

/** The sentences of the document that stand before the promises, each at the edges that it names. */
public final class TermsTest {
    private static final int BAD_ARG = LinearCodes.BAD_ARG;
    private static final int NONE = LinearCodes.NONE;
    private static final int MOST_CALLS = 512;

    public static void main(String[] args) {
        Checks.sentence("An object is used for at most 512 calls after it has been made",
                TermsTest::theLastCallAnswersAsTheFirst);
        Checks.sentence("WORDS have n bits (2 to 10) and are numbers from 0 to 2^n - 1",
                TermsTest::theLeastAndTheGreatestWord);
        Checks.sentence("PLACE i of a word is bit i of the number",
                TermsTest::theFirstAndTheLastPlace);
        Checks.sentence("The SUM of two words is their bitwise exclusive or",
                TermsTest::sumsWithItselfAndWith0);
        Checks.sentence("the WEIGHT of a word is how many of its places are 1",
                TermsTest::theLeastAndTheGreatestWeight);
        Checks.sentence("the DISTANCE of two words is the weight of their sum",
                TermsTest::theLeastAndTheGreatestDistance);
        Checks.sentence("Two words are ORTHOGONAL if the number of places in which both are 1 is even",
                TermsTest::noPlacesAreEven);
        Checks.sentence("sets of words that have the word 0",
                TermsTest::everyCodeHasTheWord0);
        Checks.sentence("and, with any two words, their sum",
                TermsTest::everyCodeHasItsSums);
        Checks.sentence("The DUAL of a code is the set of all words that are orthogonal to all words of the code",
                TermsTest::theDualHasAllThatItMayHave);
        Checks.sentence("The DIMENSION of a code is the k for which it has 2^k words",
                TermsTest::theDimensionFrom0ToN);
        Checks.sentence("A COSET of a code is the set of all sums of one word with the words of the code",
                TermsTest::theCosetsTogetherAreAllWords);
        Checks.sentence("for each choice of bits in these places the code has exactly one word with these bits there",
                TermsTest::setsThatAreTooSmallOrTooLarge);
        Checks.sentence("No call ever throws",
                TermsTest::noCallThrows);
        Checks.sentence("A refused call answers the code named",
                TermsTest::onlyArgumentsOutOfRangeAreRefused);
        Checks.sentence("and changes nothing",
                TermsTest::refusedCallsChangeNothing);
        Checks.sentence("In every call a code c that is not 0 or 1 answers BAD_ARG, tested first",
                TermsTest::badCodesAreRefused);
        Checks.sentence("then a word that is not 0 to 2^n - 1 .. answers BAD_ARG",
                TermsTest::badWordsAreRefused);
        Checks.sentence("or a place that is not 0 to n - 1, answers BAD_ARG",
                TermsTest::badPlacesAreRefused);
        Checks.sentence("BAD_ARG = -1", () -> Checks.due("BAD_ARG", LinearCodes.BAD_ARG, -1));
        Checks.sentence("NONE = -4", () -> Checks.due("NONE", LinearCodes.NONE, -4));
        Checks.end();
    }

    private static void due(String what, long got, long want) {
        Checks.due(what, got, want);
    }

    private static void theLastCallAnswersAsTheFirst() {
        for (Call call : Call.ALL) {
            for (int[] arguments : call.argumentsOf(kind -> new int[] {0, 1})) {
                LinearCodes used = new LinearCodes(6);
                for (int before = 1; before < MOST_CALLS; before += 7) {
                    Checks.addAll(used, 0, 63, 6);
                    Checks.addAll(used, 1, 3, 48);
                    used.clear(0);
                    used.clear(1);
                    used.length();
                }
                LinearCodes fresh = new LinearCodes(6);
                due(call.with(arguments) + " as call 512", call.of(used, arguments), call.of(fresh, arguments));
            }
        }
        LinearCodes turned = new LinearCodes(10);
        for (int number = 1; number <= MOST_CALLS; number++) {
            due("dualize(0) as call " + number, turned.dualize(0), number % 2 == 1 ? 10 : 0);
        }
    }

    private static void theLeastAndTheGreatestWord() {
        Checks.forEachLength(n -> {
            int greatest = Checks.greatestWord(n);
            String of = " of length " + n;
            LinearCodes x = new LinearCodes(n);
            due("add(0, 0)" + of, x.add(0, 0), 0);
            due("has(0, 0)" + of, x.has(0, 0), 1);
            due("has(0, greatest) before" + of, x.has(0, greatest), 0);
            due("nearest(0, greatest) before" + of, x.nearest(0, greatest), 0);
            due("add(0, greatest)" + of, x.add(0, greatest), 1);
            due("has(0, greatest)" + of, x.has(0, greatest), 1);
            due("nearest(0, greatest)" + of, x.nearest(0, greatest), greatest);
            due("isInformation(0, greatest)" + of, x.isInformation(0, greatest), 0);
            due("wordAt(0, 1)" + of, x.wordAt(0, 1), greatest);
            due("has(0, greatest + 1)" + of, x.has(0, greatest + 1), BAD_ARG);
            due("add(0, greatest + 1)" + of, x.add(0, greatest + 1), BAD_ARG);
        });
    }

    private static void theFirstAndTheLastPlace() {
        Checks.forEachLength(n -> {
            for (int place = 0; place < n; place += n - 1) {
                String at = " at place " + place + " of " + n;
                LinearCodes x = Checks.withCodes(n, new int[] {1 << place}, Checks.unitWords(n));
                due("shorten(1)" + at, x.shorten(1, place), n - 1);
                due("has(1, 1 << place)" + at, x.has(1, 1 << place), 0);
                due("has(1, all the others)" + at, x.has(1, Checks.greatestWord(n) - (1 << place)), 1);
                due("puncture(0)" + at, x.puncture(0, place), 0);
                x.add(0, 1 << place);
                due("exchange(0, place, the other end)" + at, x.exchange(0, place, n - 1 - place), 1);
                due("wordAt(0, 1)" + at, x.wordAt(0, 1), 1 << (n - 1 - place));
            }
        });
    }

    private static void sumsWithItselfAndWith0() {
        Checks.forEachLength(n -> {
            int greatest = Checks.greatestWord(n);
            LinearCodes x = Checks.withCode(n, greatest);
            due("add(0, the word that it has)", x.add(0, greatest), 1);
            due("add(0, 0)", x.add(0, 0), 1);
            due("add(0, 1)", x.add(0, 1), 2);
            due("has(0, the sum of 1 and the greatest)", x.has(0, greatest - 1), 1);
            due("wordAt(0, 4), no fifth word", x.wordAt(0, 4), NONE);
        });
        LinearCodes carried = Checks.withCode(4, 3, 1);
        due("has(0, 2), the sum without a carry", carried.has(0, 2), 1);
        due("has(0, 4), the sum with a carry", carried.has(0, 4), 0);
    }

    private static void theLeastAndTheGreatestWeight() {
        Checks.forEachLength(n -> {
            LinearCodes x = Checks.withCode(n, Checks.greatestWord(n));
            due("weights(0, 0) of length " + n, x.weights(0, 0), 1);
            due("weights(0, " + n + ")", x.weights(0, n), 1);
            due("leastWeight(0) of the greatest word", x.leastWeight(0), n);
            for (int place = 0; place < n; place++) {
                due("leastWeight(0) of place " + place, Checks.withCode(n, 1 << place).leastWeight(0), 1);
            }
        });
    }

    private static void theLeastAndTheGreatestDistance() {
        Checks.forEachLength(n -> {
            LinearCodes x = Checks.withCodes(n, new int[0], Checks.unitWords(n));
            due("radius(0), from 0 to the greatest word of " + n, x.radius(0), n);
            due("radius(1), from each word to itself", x.radius(1), 0);
            due("nearest(1, greatest)", x.nearest(1, Checks.greatestWord(n)), Checks.greatestWord(n));
        });
    }

    private static void noPlacesAreEven() {
        Checks.forEachLength(n -> {
            int last = 1 << (n - 1);
            due("orthogonal() of 0 and all words", pairIs(n, new int[0], Checks.unitWords(n)), 1);
            due("orthogonal() of 1 and the last place, no place in both", orthogonality(n, 1, last), 1);
            due("orthogonal() of 1 and 1, one place", orthogonality(n, 1, 1), 0);
            due("orthogonal() of the last place with itself", orthogonality(n, last, last), 0);
            due("orthogonal() of both ends with both ends, two places", orthogonality(n, 1 + last, 1 + last), 1);
            due("orthogonal() of the greatest with itself, n places",
                    orthogonality(n, Checks.greatestWord(n), Checks.greatestWord(n)), n % 2 == 0 ? 1 : 0);
        });
    }

    private static int orthogonality(int n, int word0, int word1) {
        return pairIs(n, new int[] {word0}, new int[] {word1});
    }

    private static int pairIs(int n, int[] words0, int[] words1) {
        return Checks.withCodes(n, words0, words1).orthogonal();
    }

    private static void everyCodeHasTheWord0() {
        Checks.forEachLength(n -> afterEachChange(n, (what, x) -> {
            due("has(0, 0) after " + what, x.has(0, 0), 1);
            due("has(1, 0) after " + what, x.has(1, 0), 1);
        }));
    }

    private static void everyCodeHasItsSums() {
        // Words of up to 7 bits can all be asked for in an object's 512 calls, in both codes.
        for (int n = 2; n <= 7; n++) {
            afterEachChange(n, (what, x) -> {
                for (int c = 0; c <= 1; c++) {
                    due("words of code " + c + " without their sum after " + what, missingSums(x, c), 0);
                }
            });
        }
    }

    private static int missingSums(LinearCodes x, int c) {
        int wordCount = 1 << x.length();
        boolean[] had = new boolean[wordCount];
        for (int word = 0; word < wordCount; word++) {
            had[word] = x.has(c, word) == 1;
        }
        int missing = 0;
        for (int v = 0; v < wordCount; v++) {
            for (int w = 0; w < wordCount; w++) {
                missing += had[v] && had[w] && !had[v ^ w] ? 1 : 0;
            }
        }
        return missing;
    }

    private interface Look {
        void at(String what, LinearCodes x);
    }

    /** Each change, with arguments at the ends of their ranges, on codes of each kind. */
    private static void afterEachChange(int n, Look look) {
        for (Call change : Call.CHANGES) {
            for (int[] arguments : change.argumentsOf(kind -> rangeEnds(n, kind))) {
                for (int[] words0 : Checks.kindsOfCodes(n)) {
                    for (int[] words1 : Checks.kindsOfCodes(n)) {
                        LinearCodes x = Checks.withCodes(n, words0, words1);
                        change.of(x, arguments);
                        look.at(change.with(arguments) + " of length " + n, x);
                    }
                }
            }
        }
    }

    private static void theDualHasAllThatItMayHave() {
        Checks.forEachLength(n -> {
            for (int[] words : Checks.kindsOfCodes(n)) {
                LinearCodes x = Checks.withCodes(n, words, words);
                int dimension = x.dimension(0);
                String before = Checks.picture(x);
                due("dualize(0) of dimension " + dimension + " of " + n, x.dualize(0), n - dimension);
                due("orthogonal() of a code and its dual", x.orthogonal(), 1);
                due("dualize(0) back", x.dualize(0), dimension);
                Checks.due("the dual of the dual", Checks.picture(x), before);
            }
        });
    }

    private static void theDimensionFrom0ToN() {
        Checks.forEachLength(n -> {
            LinearCodes x = new LinearCodes(n);
            due("dimension(1) with the word 0 alone", x.dimension(1), 0);
            for (int k = 1; k <= n; k++) {
                due("add(1, place " + (k - 1) + ") of " + n, x.add(1, 1 << (k - 1)), k);
                due("dimension(1)", x.dimension(1), k);
                due("wordAt(1, 2^k - 1)", x.wordAt(1, (1 << k) - 1), (1 << k) - 1);
                due("wordAt(1, 2^k)", x.wordAt(1, 1 << k), NONE);
            }
        });
    }

    private static void theCosetsTogetherAreAllWords() {
        Checks.forEachLength(n -> {
            for (int[] words : Checks.kindsOfCodes(n)) {
                LinearCodes x = Checks.withCode(n, words);
                int found = 0;
                for (int d = 0; d <= n; d++) {
                    found += x.cosets(0, d);
                }
                due("cosets of all weights, of length " + n, found, 1 << (n - x.dimension(0)));
            }
        });
    }

    private static void setsThatAreTooSmallOrTooLarge() {
        Checks.forEachLength(n -> {
            int greatest = Checks.greatestWord(n);
            LinearCodes x = Checks.withCodes(n, new int[0], Checks.unitWords(n));
            due("isInformation(0, no place) of 0", x.isInformation(0, 0), 1);
            due("isInformation(0, all places) of 0: no word for some bits", x.isInformation(0, greatest), 0);
            due("isInformation(1, all places) of all", x.isInformation(1, greatest), 1);
            due("isInformation(1, no place) of all: several words", x.isInformation(1, 0), 0);
            for (int place = 0; place < n; place++) {
                due("isInformation(0, one place) of 0", x.isInformation(0, 1 << place), 0);
                due("isInformation(1, all but one) of all", x.isInformation(1, greatest - (1 << place)), 0);
            }
        });
    }

    private static void noCallThrows() {
        Checks.forEachLength(n -> {
            for (int[] words : Checks.kindsOfCodes(n)) {
                for (Call call : Call.ALL) {
                    List<int[]> lists = call.argumentsOf(kind -> nearAndFar(n, kind));
                    for (int[] arguments : lists) {
                        answerOrTell(call, Checks.withCodes(n, words, new int[] {1}), arguments);
                    }
                }
            }
        });
        for (int length : new int[] {Integer.MIN_VALUE, -1, 0, 1, 11, 31, 32, 1 << 16, Integer.MAX_VALUE}) {
            answerOrTell(Call.ALL.get(0), new LinearCodes(length), 0, 1);
        }
    }

    /** So that the calls after one that throws are still tested. */
    private static void answerOrTell(Call call, LinearCodes x, int... arguments) {
        try {
            call.of(x, arguments);
        } catch (RuntimeException | StackOverflowError thrown) {
            Checks.due(call.with(arguments) + " of length " + x.length(), thrown.toString(), "an answer");
        }
    }

    private static void onlyArgumentsOutOfRangeAreRefused() {
        Checks.forEachLength(n -> {
            for (Call call : Call.ALL) {
                for (int[] arguments : call.argumentsOf(kind -> nearAndFar(n, kind))) {
                    LinearCodes x = Checks.withCodes(n, new int[] {1}, Checks.unitWords(n));
                    boolean refused = call.of(x, arguments) == BAD_ARG;
                    due(call.with(arguments) + " of length " + n + ", whether refused",
                            refused ? 1 : 0, isOutOfRange(n, call, arguments) ? 1 : 0);
                }
            }
        });
    }

    private static void refusedCallsChangeNothing() {
        Checks.forEachLength(n -> {
            for (int[] words : Checks.kindsOfCodes(n)) {
                String before = Checks.picture(Checks.withCodes(n, words, new int[] {3}));
                for (Call call : Call.ALL) {
                    for (int[] arguments : call.argumentsOf(kind -> nearAndFar(n, kind))) {
                        if (isOutOfRange(n, call, arguments)) {
                            LinearCodes x = Checks.withCodes(n, words, new int[] {3});
                            call.of(x, arguments);
                            Checks.due("the codes after " + call.with(arguments), Checks.picture(x), before);
                        }
                    }
                }
            }
        });
    }

    private static void badCodesAreRefused() {
        Checks.forEachLength(n -> {
            for (Call call : Call.ALL) {
                if (call.kinds().startsWith("c")) {
                    // The other arguments are good ones, bad ones, and numbers that alone answer 0 or NONE.
                    List<int[]> lists = call.argumentsOf(kind -> kind == 'c' ? Checks.BAD_CODES : nearAndFar(n, kind));
                    for (int[] arguments : lists) {
                        due(call.with(arguments) + " of length " + n, call.of(new LinearCodes(n), arguments), BAD_ARG);
                    }
                }
            }
        });
    }

    private static void badWordsAreRefused() {
        Checks.forEachLength(n -> refusesBad('w', n, Checks.badWords(n)));
    }

    private static void badPlacesAreRefused() {
        Checks.forEachLength(n -> refusesBad('p', n, Checks.badPlaces(n)));
    }

    /** Arguments of the kind are bad, all of them or one, and the others good. */
    private static void refusesBad(char badKind, int n, int[] bad) {
        for (Call call : Call.ALL) {
            for (int position = 0; position < call.kinds().length(); position++) {
                if (call.kinds().charAt(position) == badKind) {
                    for (int[] arguments : call.argumentsOf(kind -> rangeEnds(n, kind))) {
                        for (int each : bad) {
                            arguments[position] = each;
                            LinearCodes x = Checks.withCodes(n, new int[] {1}, Checks.unitWords(n));
                            due(call.with(arguments) + " of length " + n, call.of(x, arguments), BAD_ARG);
                        }
                    }
                }
            }
        }
    }

    private static boolean isOutOfRange(int n, Call call, int[] arguments) {
        for (int position = 0; position < arguments.length; position++) {
            int end = endOfRange(n, call.kinds().charAt(position));
            if (end != 0 && (arguments[position] < 0 || arguments[position] >= end)) {
                return true;
            }
        }
        return false;
    }

    /** The least number past the range of the kind; 0 for numbers that have no range. */
    private static int endOfRange(int n, int kind) {
        return switch (kind) {
            case 'c' -> 2;
            case 'w' -> 1 << n;
            case 'p' -> n;
            default -> 0;
        };
    }

    private static int[] rangeEnds(int n, int kind) {
        return kind == 'i' ? new int[] {0, n} : new int[] {0, endOfRange(n, kind) - 1};
    }

    /** Both ends of the range, what is next to them outside, and what is far from it. */
    private static int[] nearAndFar(int n, int kind) {
        List<Integer> numbers = new ArrayList<>(List.of(-1, 0, Integer.MIN_VALUE, Integer.MAX_VALUE));
        int end = kind == 'i' ? n + 1 : endOfRange(n, kind);
        numbers.addAll(List.of(end - 1, end));
        if (kind == 'i') {
            numbers.addAll(List.of(1 << n, (1 << n) - 1));
        }
        return numbers.stream().mapToInt(Integer::intValue).toArray();
    }
}
