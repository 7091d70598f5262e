import java.util.Collections;
import java.util.HashMap;
import java.util.HashSet;
import java.util.List;
import java.util.Map;
import java.util.Random;
import java.util.Set;
import java.util.TreeSet;
import java.util.stream.Collectors;
import java.util.stream.IntStream;

/** Runs of mixed calls, each answer compared with a model that follows the document's definitions. */
public final class ModelTest {
    private static final int CALLS_OF_AN_OBJECT = 512;
    private static final int RUNS_OF_A_LENGTH = 12;

    public static void main(String[] args) {
        for (int n = 2; n <= 10; n++) {
            for (int run = 0; run < RUNS_OF_A_LENGTH; run++) {
                // A fixed seed: the same runs each time.
                new Run(n, new Random(1000L * n + run)).go();
            }
        }
        Checks.end();
    }

    /** One object and its model, with the same calls made of both. */
    private static final class Run {
        private final int n;
        private final Random random;
        private final LinearCodes x;
        private final Model model;

        Run(int n, Random random) {
            this.n = n;
            this.random = random;
            this.x = new LinearCodes(n);
            this.model = new Model(n);
        }

        void go() {
            for (int call = 0; call < CALLS_OF_AN_OBJECT; call++) {
                if (random.nextInt(4) == 0) {
                    change();
                } else {
                    ask();
                }
            }
        }

        private void change() {
            int c = anyCode();
            int word = anyWord();
            int place = anyPlace();
            switch (random.nextInt(14)) {
                case 0 -> due("clear", x.clear(c), model.clear(c), c);
                case 1, 2 -> due("dualize", x.dualize(c), model.dualize(c), c);
                case 3 -> due("shorten", x.shorten(c, place), model.shorten(c, place), c, place);
                case 4 -> due("puncture", x.puncture(c, place), model.puncture(c, place), c, place);
                case 5, 6 -> {
                    int other = anyPlace();
                    due("exchange", x.exchange(c, place, other), model.exchange(c, place, other), c, place, other);
                }
                case 7 -> due("meet", x.meet(), model.meet());
                default -> due("add", x.add(c, word), model.add(c, word), c, word);
            }
        }

        private void ask() {
            int c = anyCode();
            int word = anyWord();
            int number = random.nextInt(n + 3) - 1;
            switch (random.nextInt(13)) {
                case 0 -> due("length", x.length(), n);
                case 1 -> due("dimension", x.dimension(c), model.dimension(c), c);
                case 2 -> due("has", x.has(c, word), model.has(c, word), c, word);
                case 3 -> {
                    int i = random.nextInt(5) - 1 + random.nextInt(2) * random.nextInt(1 << n);
                    due("wordAt", x.wordAt(c, i), model.wordAt(c, i), c, i);
                }
                case 4 -> due("weights", x.weights(c, number), model.weights(c, number), c, number);
                case 5 -> due("dualWeights", x.dualWeights(c, number), model.dualWeights(c, number), c, number);
                case 6 -> due("leastWeight", x.leastWeight(c), model.leastWeight(c), c);
                case 7 -> due("nearest", x.nearest(c, word), model.nearest(c, word), c, word);
                case 8 -> due("cosets", x.cosets(c, number), model.cosets(c, number), c, number);
                case 9 -> due("radius", x.radius(c), model.radius(c), c);
                case 10 -> due("isInformation", x.isInformation(c, word), model.isInformation(c, word), c, word);
                case 11 -> due("informationSets", x.informationSets(c), model.informationSets(c), c);
                default -> due("orthogonal", x.orthogonal(), model.orthogonal());
            }
        }

        private int anyCode() {
            return random.nextInt(20) == 0 ? random.nextInt(5) - 2 : random.nextInt(2);
        }

        private int anyWord() {
            return random.nextInt(20) == 0 ? random.nextInt(5) - 2 + (random.nextInt(2) << n) : random.nextInt(1 << n);
        }

        private int anyPlace() {
            return random.nextInt(n + 1) - random.nextInt(20) / 19;
        }

        private void due(String method, int got, int want, int... arguments) {
            String list = IntStream.of(arguments).mapToObj(String::valueOf).collect(Collectors.joining(", "));
            Checks.due("length " + n + ": " + method + "(" + list + ")", got, want);
        }
    }

    /** The document's words, with sets for codes and no thought for speed. */
    private static final class Model {
        private final int n;
        private final List<TreeSet<Integer>> codes = List.of(new TreeSet<>(Set.of(0)), new TreeSet<>(Set.of(0)));

        // What is slow to tell is kept for each code asked about, under a copy, since the codes change.
        private final Map<Set<Integer>, Map<Integer, Integer>> cosetsByLeastWeight = new HashMap<>();

        Model(int n) {
            this.n = n;
        }

        int clear(int c) {
            if (badCode(c)) {
                return LinearCodes.BAD_ARG;
            }
            int before = dimension(c);
            become(c, new TreeSet<>(Set.of(0)));
            return before;
        }

        int add(int c, int word) {
            if (badCode(c) || badWord(word)) {
                return LinearCodes.BAD_ARG;
            }
            TreeSet<Integer> code = new TreeSet<>(codes.get(c));
            for (int v : codes.get(c)) {
                code.add(v ^ word);
            }
            return become(c, code);
        }

        int dualize(int c) {
            return badCode(c) ? LinearCodes.BAD_ARG : become(c, dual(c));
        }

        int shorten(int c, int place) {
            if (badCode(c) || badPlace(place)) {
                return LinearCodes.BAD_ARG;
            }
            TreeSet<Integer> code = new TreeSet<>(codes.get(c));
            code.removeIf(v -> bit(v, place));
            return become(c, code);
        }

        int puncture(int c, int place) {
            if (badCode(c) || badPlace(place)) {
                return LinearCodes.BAD_ARG;
            }
            TreeSet<Integer> code = new TreeSet<>();
            for (int v : codes.get(c)) {
                code.add(bit(v, place) ? v - (1 << place) : v);
            }
            return become(c, code);
        }

        int exchange(int c, int i, int j) {
            if (badCode(c) || badPlace(i) || badPlace(j)) {
                return LinearCodes.BAD_ARG;
            }
            TreeSet<Integer> code = new TreeSet<>();
            for (int v : codes.get(c)) {
                int moved = 0;
                for (int place = 0; place < n; place++) {
                    int from = place == i ? j : place == j ? i : place;
                    moved += bit(v, from) ? 1 << place : 0;
                }
                code.add(moved);
            }
            return become(c, code);
        }

        int meet() {
            TreeSet<Integer> code = new TreeSet<>(codes.get(0));
            code.retainAll(codes.get(1));
            return become(0, code);
        }

        int dimension(int c) {
            return badCode(c) ? LinearCodes.BAD_ARG : Integer.numberOfTrailingZeros(codes.get(c).size());
        }

        int has(int c, int word) {
            if (badCode(c) || badWord(word)) {
                return LinearCodes.BAD_ARG;
            }
            return codes.get(c).contains(word) ? 1 : 0;
        }

        int wordAt(int c, int i) {
            if (badCode(c)) {
                return LinearCodes.BAD_ARG;
            }
            for (int v : codes.get(c)) {
                if (codes.get(c).headSet(v).size() == i) {
                    return v;
                }
            }
            return LinearCodes.NONE;
        }

        int weights(int c, int w) {
            return badCode(c) ? LinearCodes.BAD_ARG : ofWeight(codes.get(c), w);
        }

        int dualWeights(int c, int w) {
            return badCode(c) ? LinearCodes.BAD_ARG : ofWeight(dual(c), w);
        }

        int leastWeight(int c) {
            if (badCode(c)) {
                return LinearCodes.BAD_ARG;
            }
            return codes.get(c).stream().filter(v -> v != 0).mapToInt(Integer::bitCount).min().orElse(LinearCodes.NONE);
        }

        int nearest(int c, int word) {
            if (badCode(c) || badWord(word)) {
                return LinearCodes.BAD_ARG;
            }
            int distance = distance(c, word);
            return codes.get(c).stream().filter(v -> Integer.bitCount(v ^ word) == distance).min(Integer::compare).get();
        }

        int cosets(int c, int d) {
            if (badCode(c)) {
                return LinearCodes.BAD_ARG;
            }
            return cosetsByLeastWeight.computeIfAbsent(Set.copyOf(codes.get(c)), this::countCosets).getOrDefault(d, 0);
        }

        int radius(int c) {
            if (badCode(c)) {
                return LinearCodes.BAD_ARG;
            }
            return IntStream.range(0, 1 << n).map(word -> distance(c, word)).max().getAsInt();
        }

        int isInformation(int c, int set) {
            if (badCode(c) || badWord(set)) {
                return LinearCodes.BAD_ARG;
            }
            return informs(c, set) ? 1 : 0;
        }

        int informationSets(int c) {
            if (badCode(c)) {
                return LinearCodes.BAD_ARG;
            }
            return (int) IntStream.range(0, 1 << n).filter(set -> informs(c, set)).count();
        }

        int orthogonal() {
            return dual(1).containsAll(codes.get(0)) ? 1 : 0;
        }

        private int become(int c, TreeSet<Integer> code) {
            codes.get(c).clear();
            codes.get(c).addAll(code);
            return dimension(c);
        }

        private TreeSet<Integer> dual(int c) {
            TreeSet<Integer> dual = new TreeSet<>();
            for (int word = 0; word < 1 << n; word++) {
                int w = word;
                if (codes.get(c).stream().allMatch(v -> Integer.bitCount(v & w) % 2 == 0)) {
                    dual.add(word);
                }
            }
            return dual;
        }

        private int distance(int c, int word) {
            int least = n;
            for (int v : codes.get(c)) {
                least = Math.min(least, Integer.bitCount(v ^ word));
            }
            return least;
        }

        private Map<Integer, Integer> countCosets(Set<Integer> code) {
            Set<Set<Integer>> cosets = new HashSet<>();
            for (int word = 0; word < 1 << n; word++) {
                int w = word;
                cosets.add(code.stream().map(v -> v ^ w).collect(Collectors.toSet()));
            }
            Map<Integer, Integer> counts = new HashMap<>();
            for (Set<Integer> coset : cosets) {
                counts.merge(coset.stream().mapToInt(Integer::bitCount).min().getAsInt(), 1, Integer::sum);
            }
            return counts;
        }

        /** Each choice of bits in the set must be made by exactly one word. */
        private boolean informs(int c, int set) {
            Map<Integer, Integer> words = new HashMap<>();
            for (int v : codes.get(c)) {
                words.merge(v & set, 1, Integer::sum);
            }
            return words.size() == 1 << Integer.bitCount(set) && Collections.max(words.values()) == 1;
        }

        private boolean badCode(int c) {
            return c < 0 || c > 1;
        }

        private boolean badWord(int word) {
            return word < 0 || word >= Math.pow(2, n);
        }

        private boolean badPlace(int place) {
            return place < 0 || place >= n;
        }

        private static boolean bit(int word, int place) {
            return (word / (1 << place)) % 2 == 1;
        }

        private static int ofWeight(Set<Integer> words, int w) {
            return (int) words.stream().filter(v -> Integer.bitCount(v) == w).count();
        }
    }
}
