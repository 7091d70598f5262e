import java.util.Comparator;
import java.util.HashMap;
import java.util.List;
import java.util.Map;
import java.util.function.IntPredicate;
import java.util.stream.IntStream;

/**
 * Every pair of codes of words of 2 to 4 bits, with every call that has its arguments in or next to their ranges. A
 * set of words is here the number whose bit v tells whether it has the word v, so that all sets can be gone through.
 */
public final class SmallCodesTest {
    private static final int MOST_BITS = 4;

    private final int n;
    private final int wordCount;
    private final List<Integer> codes;

    // Each code is in many pairs; what is due for it alone is found once.
    private final Map<List<Object>, Integer> answersOfOne = new HashMap<>();

    private SmallCodesTest(int n) {
        this.n = n;
        this.wordCount = 1 << n;
        this.codes = IntStream.range(0, 1 << wordCount).filter(this::isCode).boxed().toList();
    }

    public static void main(String[] args) {
        // How many codes there are is known, so that a slip in finding them does not go unseen.
        int[] howMany = {0, 0, 5, 16, 67};
        for (int n = 2; n <= MOST_BITS; n++) {
            SmallCodesTest test = new SmallCodesTest(n);
            Checks.due("codes of words of " + n + " bits", test.codes.size(), howMany[n]);
            test.everyPair();
        }
        Checks.end();
    }

    private void everyPair() {
        for (int code0 : codes) {
            for (int code1 : codes) {
                everyChange(code0, code1);
                everyQuestion(code0, code1);
            }
        }
    }

    private void everyChange(int code0, int code1) {
        for (Call change : Call.CHANGES) {
            for (int[] a : change.argumentsOf(this::inAndNextToRange)) {
                LinearCodes x = withCodes(code0, code1);
                int[] pair = {code0, code1};
                int want = isRefused(change, a) ? LinearCodes.BAD_ARG : changed(change.name(), pair, a);
                dueAnswer(change, a, code0, code1, change.of(x, a), want);
                dueCodes(change.name(), x, pair[0], pair[1]);
            }
        }
    }

    private void everyQuestion(int code0, int code1) {
        for (Call question : Call.QUESTIONS) {
            LinearCodes x = withCodes(code0, code1);
            for (int[] a : question.argumentsOf(this::inAndNextToRange)) {
                int want = isRefused(question, a) ? LinearCodes.BAD_ARG : answer(question.name(), code0, code1, a);
                dueAnswer(question, a, code0, code1, question.of(x, a), want);
            }
            dueCodes(question.name(), x, code0, code1);
        }
    }

    private void dueAnswer(Call call, int[] a, int code0, int code1, int got, int want) {
        // The words for it are made only when they are needed: there are more than a million answers.
        if (got != want) {
            Checks.due(call.with(a) + " of " + told(code0, code1), got, want);
        }
    }

    private void dueCodes(String name, LinearCodes x, int code0, int code1) {
        int got0 = codeOf(x, 0);
        int got1 = codeOf(x, 1);
        if (got0 != code0 || got1 != code1) {
            Checks.due("what the codes are after " + name, told(got0, got1), told(code0, code1));
        }
    }

    private String told(int code0, int code1) {
        return words(code0).boxed().toList() + " and " + words(code1).boxed().toList() + " of length " + n;
    }

    /** What the change answers; the pair becomes what the codes are then. */
    private int changed(String name, int[] pair, int[] a) {
        int c = name.equals("meet") ? 0 : a[0];
        int code = pair[c];
        pair[c] = switch (name) {
            case "add" -> leastCodeWith(code | 1 << a[1]);
            case "clear" -> 1;
            case "dualize" -> dual(code);
            case "shorten" -> set(v -> has(code, v) && bit(v, a[1]) == 0);
            case "puncture" -> set(v -> bit(v, a[1]) == 0 && (has(code, v) || has(code, v + (1 << a[1]))));
            case "exchange" -> set(v -> words(code).anyMatch(u -> isExchanged(u, v, a[1], a[2])));
            case "meet" -> set(v -> has(pair[0], v) && has(pair[1], v));
            default -> throw new IllegalArgumentException(name);
        };
        return dimension(name.equals("clear") ? code : pair[c]);
    }

    private int answer(String name, int code0, int code1, int[] a) {
        if (name.equals("length")) {
            return n;
        }
        if (name.equals("orthogonal")) {
            return words(code0).allMatch(v -> words(code1).allMatch(u -> areOrthogonal(u, v))) ? 1 : 0;
        }
        int code = a[0] == 0 ? code0 : code1;
        int argument = a.length == 1 ? 0 : a[1];
        return answersOfOne.computeIfAbsent(List.of(name, code, argument), key -> answerOfOne(name, code, argument));
    }

    private int answerOfOne(String name, int code, int argument) {
        return switch (name) {
            case "dimension" -> dimension(code);
            case "has" -> has(code, argument) ? 1 : 0;
            case "wordAt" -> words(code).filter(v -> words(code).filter(u -> u < v).count() == argument)
                    .findAny().orElse(LinearCodes.NONE);
            case "weights" -> count(words(code), v -> weight(v) == argument);
            case "dualWeights" -> count(words(dual(code)), v -> weight(v) == argument);
            case "leastWeight" -> words(code).filter(v -> v != 0).map(this::weight).min().orElse(LinearCodes.NONE);
            case "nearest" -> words(code).filter(v -> weight(v ^ argument) == distance(code, argument))
                    .min().getAsInt();
            case "cosets" -> count(allWords().map(v -> coset(code, v)).distinct(),
                    coset -> leastWeight(coset) == argument);
            case "radius" -> allWords().map(v -> distance(code, v)).max().getAsInt();
            case "isInformation" -> isInformation(code, argument) ? 1 : 0;
            case "informationSets" -> count(allWords(), places -> isInformation(code, places));
            default -> throw new IllegalArgumentException(name);
        };
    }

    private boolean isCode(int set) {
        return has(set, 0) && words(set).allMatch(v -> words(set).allMatch(u -> has(set, u ^ v)));
    }

    private int leastCodeWith(int words) {
        return codes.stream().filter(code -> (code & words) == words)
                .min(Comparator.comparing(Integer::bitCount)).get();
    }

    private int dual(int code) {
        return set(v -> words(code).allMatch(u -> areOrthogonal(u, v)));
    }

    private int coset(int code, int word) {
        return set(v -> words(code).anyMatch(u -> (u ^ word) == v));
    }

    private int distance(int code, int word) {
        return words(code).map(v -> weight(v ^ word)).min().getAsInt();
    }

    private int leastWeight(int set) {
        return words(set).map(this::weight).min().getAsInt();
    }

    private boolean areOrthogonal(int u, int v) {
        return count(places(), place -> bit(u, place) == 1 && bit(v, place) == 1) % 2 == 0;
    }

    /** A choice of bits in the places is a word that is 0 in all others. */
    private boolean isInformation(int code, int places) {
        return allWords().filter(choice -> (choice | places) == places)
                .allMatch(choice -> count(words(code), v -> (v & places) == choice) == 1);
    }

    private boolean isExchanged(int from, int to, int i, int j) {
        return places().allMatch(p -> bit(to, p) == bit(from, p == i ? j : p == j ? i : p));
    }

    private int dimension(int code) {
        return IntStream.rangeClosed(0, n).filter(k -> Integer.bitCount(code) == 1 << k).findAny().getAsInt();
    }

    private int weight(int word) {
        return places().map(place -> bit(word, place)).sum();
    }

    private static int bit(int word, int place) {
        return word >> place & 1;
    }

    private static boolean has(int set, int word) {
        return bit(set, word) == 1;
    }

    private int set(IntPredicate hasWord) {
        return allWords().filter(hasWord).map(v -> 1 << v).sum();
    }

    private IntStream words(int set) {
        return allWords().filter(v -> has(set, v));
    }

    private IntStream allWords() {
        return IntStream.range(0, wordCount);
    }

    private IntStream places() {
        return IntStream.range(0, n);
    }

    private static int count(IntStream numbers, IntPredicate counted) {
        return (int) numbers.filter(counted).count();
    }

    private LinearCodes withCodes(int code0, int code1) {
        LinearCodes x = new LinearCodes(n);
        for (int word = 1; word < wordCount; word++) {
            if (has(code0, word)) {
                x.add(0, word);
            }
            if (has(code1, word)) {
                x.add(1, word);
            }
        }
        return x;
    }

    private int codeOf(LinearCodes x, int c) {
        int code = 0;
        for (int word = 0; word < wordCount; word++) {
            code += x.has(c, word) << word;
        }
        return code;
    }

    private boolean isRefused(Call call, int[] a) {
        return IntStream.range(0, a.length).anyMatch(at -> {
            char kind = call.kinds().charAt(at);
            return kind != 'i' && (a[at] < 0 || a[at] > greatest(kind));
        });
    }

    private int[] inAndNextToRange(int kind) {
        return IntStream.rangeClosed(-1, greatest(kind) + 1).toArray();
    }

    /** Of what is any number: up to the number of words, which is past all weights and distances too. */
    private int greatest(int kind) {
        return switch (kind) {
            case 'c' -> 1;
            case 'p' -> n - 1;
            default -> wordCount - 1;
        };
    }
}
