/** Two codes of words of bits, each held as the plain table of the words that it has. */
public final class LinearCodes {
    public static final int BAD_ARG = -1;
    public static final int NONE = -4;

    private static final int LEAST_LENGTH = 2;
    private static final int GREATEST_LENGTH = 10;
    private static final int MOST_WORDS = 1024;
    private static final int BOTH_TABLES = 2048;

    // Code c owns the MOST_WORDS entries from c * MOST_WORDS on; those past 2^n stay false.
    private final boolean[] member = new boolean[BOTH_TABLES];

    // A changed code is built here first, since its old words are still read meanwhile.
    private final boolean[] built = new boolean[MOST_WORDS];

    private final int n;
    private final int wordCount;

    public LinearCodes(int length) {
        n = length < LEAST_LENGTH ? LEAST_LENGTH : length > GREATEST_LENGTH ? GREATEST_LENGTH : length;
        wordCount = 1 << n;
        member[0] = true;
        member[MOST_WORDS] = true;
    }

    public int add(int c, int word) {
        if (!isCode(c) || !isWord(word)) {
            return BAD_ARG;
        }
        for (int v = 0; v < wordCount; v++) {
            built[v] = holds(c, v) || holds(c, v ^ word);
        }
        takeBuilt(c);
        return dimensionOf(c);
    }

    public int clear(int c) {
        if (!isCode(c)) {
            return BAD_ARG;
        }
        int before = dimensionOf(c);
        emptyBuilt();
        built[0] = true;
        takeBuilt(c);
        return before;
    }

    public int dualize(int c) {
        if (!isCode(c)) {
            return BAD_ARG;
        }
        for (int v = 0; v < wordCount; v++) {
            built[v] = isInDual(c, v);
        }
        takeBuilt(c);
        return dimensionOf(c);
    }

    public int shorten(int c, int place) {
        if (!isCode(c) || !isPlace(place)) {
            return BAD_ARG;
        }
        for (int v = 0; v < wordCount; v++) {
            built[v] = holds(c, v) && bitAt(v, place) == 0;
        }
        takeBuilt(c);
        return dimensionOf(c);
    }

    public int puncture(int c, int place) {
        if (!isCode(c) || !isPlace(place)) {
            return BAD_ARG;
        }
        int otherPlaces = ~(1 << place);
        emptyBuilt();
        for (int v = 0; v < wordCount; v++) {
            if (holds(c, v)) {
                built[v & otherPlaces] = true;
            }
        }
        takeBuilt(c);
        return dimensionOf(c);
    }

    public int exchange(int c, int i, int j) {
        if (!isCode(c) || !isPlace(i) || !isPlace(j)) {
            return BAD_ARG;
        }
        for (int v = 0; v < wordCount; v++) {
            int exchanged = withExchangedBits(v, i, j);
            built[v] = holds(c, exchanged);
        }
        takeBuilt(c);
        return dimensionOf(c);
    }

    public int meet() {
        for (int v = 0; v < wordCount; v++) {
            built[v] = holds(0, v) && holds(1, v);
        }
        takeBuilt(0);
        return dimensionOf(0);
    }

    public int length() {
        return n;
    }

    public int dimension(int c) {
        return isCode(c) ? dimensionOf(c) : BAD_ARG;
    }

    public int has(int c, int word) {
        if (!isCode(c) || !isWord(word)) {
            return BAD_ARG;
        }
        return holds(c, word) ? 1 : 0;
    }

    public int wordAt(int c, int i) {
        if (!isCode(c)) {
            return BAD_ARG;
        }
        int lesser = 0;
        for (int v = 0; v < wordCount; v++) {
            if (holds(c, v)) {
                if (lesser == i) {
                    return v;
                }
                lesser++;
            }
        }
        return NONE;
    }

    public int weights(int c, int w) {
        if (!isCode(c)) {
            return BAD_ARG;
        }
        int found = 0;
        for (int v = 0; v < wordCount; v++) {
            if (holds(c, v) && weightOf(v) == w) {
                found++;
            }
        }
        return found;
    }

    public int dualWeights(int c, int w) {
        if (!isCode(c)) {
            return BAD_ARG;
        }
        int found = 0;
        for (int v = 0; v < wordCount; v++) {
            if (weightOf(v) == w && isInDual(c, v)) {
                found++;
            }
        }
        return found;
    }

    public int leastWeight(int c) {
        if (!isCode(c)) {
            return BAD_ARG;
        }
        int least = NONE;
        for (int v = 1; v < wordCount; v++) {
            if (holds(c, v)) {
                int weight = weightOf(v);
                if (least == NONE || weight < least) {
                    least = weight;
                }
            }
        }
        return least;
    }

    public int nearest(int c, int word) {
        if (!isCode(c) || !isWord(word)) {
            return BAD_ARG;
        }
        return nearestWord(c, word);
    }

    public int cosets(int c, int d) {
        if (!isCode(c)) {
            return BAD_ARG;
        }
        int found = 0;
        for (int v = 0; v < wordCount; v++) {
            if (isLeastOfCoset(c, v) && distanceFromCode(c, v) == d) {
                found++;
            }
        }
        return found;
    }

    public int radius(int c) {
        if (!isCode(c)) {
            return BAD_ARG;
        }
        int greatest = 0;
        for (int v = 0; v < wordCount; v++) {
            // All words of a coset are equally far from the code, so one of them is enough.
            if (isLeastOfCoset(c, v)) {
                int distance = distanceFromCode(c, v);
                if (distance > greatest) {
                    greatest = distance;
                }
            }
        }
        return greatest;
    }

    public int isInformation(int c, int set) {
        if (!isCode(c) || !isWord(set)) {
            return BAD_ARG;
        }
        int dimension = dimensionOf(c);
        return weightOf(set) == dimension && tellsWordsApart(c, set) ? 1 : 0;
    }

    public int informationSets(int c) {
        if (!isCode(c)) {
            return BAD_ARG;
        }
        int dimension = dimensionOf(c);
        int found = 0;
        for (int set = 0; set < wordCount; set++) {
            if (weightOf(set) == dimension && tellsWordsApart(c, set)) {
                found++;
            }
        }
        return found;
    }

    public int orthogonal() {
        for (int v = 0; v < wordCount; v++) {
            if (holds(0, v) && !isInDual(1, v)) {
                return 0;
            }
        }
        return 1;
    }

    private static boolean isCode(int c) {
        return c == 0 || c == 1;
    }

    private boolean isWord(int word) {
        return word >= 0 && word < wordCount;
    }

    private boolean isPlace(int place) {
        return place >= 0 && place < n;
    }

    private boolean holds(int c, int word) {
        return member[c * MOST_WORDS + word];
    }

    private void emptyBuilt() {
        for (int v = 0; v < wordCount; v++) {
            built[v] = false;
        }
    }

    private void takeBuilt(int c) {
        for (int v = 0; v < wordCount; v++) {
            member[c * MOST_WORDS + v] = built[v];
        }
    }

    private int dimensionOf(int c) {
        int held = 0;
        for (int v = 0; v < wordCount; v++) {
            if (holds(c, v)) {
                held++;
            }
        }
        int k = 0;
        while (k < n && (1 << k) < held) {
            k++;
        }
        return k;
    }

    private static int bitAt(int word, int place) {
        return (word >> place) & 1;
    }

    private static int weightOf(int word) {
        int weight = 0;
        for (int place = 0; place < GREATEST_LENGTH; place++) {
            weight += bitAt(word, place);
        }
        return weight;
    }

    private static int withExchangedBits(int word, int i, int j) {
        // Two unequal bits exchange by both turning over; equal ones stay as they are.
        if (bitAt(word, i) == bitAt(word, j)) {
            return word;
        }
        return word ^ (1 << i) ^ (1 << j);
    }

    private boolean isInDual(int c, int word) {
        for (int v = 0; v < wordCount; v++) {
            if (holds(c, v) && (weightOf(v & word) & 1) == 1) {
                return false;
            }
        }
        return true;
    }

    private int nearestWord(int c, int word) {
        // Upwards from the word 0, which each code has, so that of equally near ones the least stays.
        int nearest = 0;
        int leastDistance = weightOf(word);
        for (int v = 1; v < wordCount; v++) {
            if (holds(c, v)) {
                int distance = weightOf(v ^ word);
                if (distance < leastDistance) {
                    nearest = v;
                    leastDistance = distance;
                }
            }
        }
        return nearest;
    }

    private int distanceFromCode(int c, int word) {
        int nearest = nearestWord(c, word);
        return weightOf(nearest ^ word);
    }

    private boolean isLeastOfCoset(int c, int word) {
        for (int v = 0; v < word; v++) {
            if (holds(c, v ^ word)) {
                return false;
            }
        }
        return true;
    }

    private boolean tellsWordsApart(int c, int set) {
        // Two words that agree on the set have a sum in the code that is 0 there.
        for (int v = 1; v < wordCount; v++) {
            if (holds(c, v) && (v & set) == 0) {
                return false;
            }
        }
        return true;
    }
}
