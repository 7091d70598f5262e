/** The sentences of the promises that name an edge, or have one, each with a test of its own at every length. */
public final class EdgesTest {
    private static final int BAD_ARG = LinearCodes.BAD_ARG;
    private static final int NONE = LinearCodes.NONE;
    private static final int[] NOTHING = {};

    public static void main(String[] args) {
        newObjects();
        changes();
        questionsAboutWords();
        questionsAboutCodes();
        Checks.end();
    }

    private static void newObjects() {
        Checks.sentence("1: n is length, clamped into 2 to 10", EdgesTest::lengthsInTheRange);
        Checks.sentence("1: below 2 becomes 2", EdgesTest::lengthsBelowTheRange);
        Checks.sentence("1: above 10 becomes 10", EdgesTest::lengthsAboveTheRange);
        Checks.sentence("1: both codes have the word 0 only", EdgesTest::newCodes);
    }

    private static void changes() {
        Checks.sentence("2: the least code that has all that it had and the word", EdgesTest::addWhatItHas);
        Checks.sentence("2: the least code (to the fullest one)", EdgesTest::addUntilFull);
        Checks.sentence("2: a word that is not 0 to 2^n - 1 answers BAD_ARG", EdgesTest::addBadWord);
        Checks.sentence("3: Code c has the word 0 only then", EdgesTest::clearLeavesTheWord0);
        Checks.sentence("3: Answers the dimension before", EdgesTest::clearAnswersTheDimensionBefore);
        Checks.sentence("4: Code c becomes its dual", EdgesTest::dualOfEmptyAndFull);
        Checks.sentence("4: Answers the dimension then", EdgesTest::dualizeAnswersTheDimensionThen);
        Checks.sentence("5: keeps only its words that have a 0 in the place", EdgesTest::shortenAtEachPlace);
        Checks.sentence("5: keeps (all of) its words that have a 0 in the place", EdgesTest::shortenWhereAllAre0);
        Checks.sentence("5: a place that is not 0 to n - 1 answers BAD_ARG", EdgesTest::shortenAtBadPlace);
        Checks.sentence("6: In all words of code c the place becomes 0", EdgesTest::punctureAtEachPlace);
        Checks.sentence("6: the place becomes 0 (and is so already)", EdgesTest::punctureWhereAllAre0);
        Checks.sentence("6: a place that is not 0 to n - 1 answers BAD_ARG", EdgesTest::punctureAtBadPlace);
        Checks.sentence("7: the places i and j exchange their bits", EdgesTest::exchangeEachTwoPlaces);
        Checks.sentence("7: (the same one perhaps)", EdgesTest::exchangeTheSamePlace);
        Checks.sentence("7: a place that is not 0 to n - 1 answers BAD_ARG", EdgesTest::exchangeBadPlaces);
        Checks.sentence("7: Answers the dimension", EdgesTest::exchangeAnswersTheDimension);
        Checks.sentence("8: the set of the words that both codes have", EdgesTest::meetEmptyAndFull);
        Checks.sentence("8: Code 0 becomes (and code 1 does not)", EdgesTest::meetLeavesCode1);
    }

    private static void questionsAboutWords() {
        Checks.sentence("9: n", EdgesTest::lengthStays);
        Checks.sentence("10: The dimension", EdgesTest::dimensionOfEmptyAndFull);
        Checks.sentence("11: 1 if code c has the word, else 0", EdgesTest::hasInEmptyAndFull);
        Checks.sentence("11: a word that is not 0 to 2^n - 1 answers BAD_ARG", EdgesTest::hasBadWord);
        Checks.sentence("12: The word of code c that has i lesser ones", EdgesTest::wordAtFirstAndLast);
        Checks.sentence("12: NONE if there is none (too many)", EdgesTest::wordAtPastTheLast);
        Checks.sentence("12: NONE if there is none (less than no lesser ones)", EdgesTest::wordAtBeforeTheFirst);
        Checks.sentence("13: How many words of code c have weight w", EdgesTest::weightsOfEmptyAndFull);
        Checks.sentence("13: (0 if w is not 0 to n)", EdgesTest::weightsOutOfRange);
        Checks.sentence("14: How many words of the dual of code c have weight w", EdgesTest::dualWeightsOfEmptyAndFull);
        Checks.sentence("14: (0 if w is not 0 to n)", EdgesTest::dualWeightsOutOfRange);
        Checks.sentence("15: The least weight of a word of code c other than 0", EdgesTest::leastWeightFrom1ToN);
        Checks.sentence("15: NONE if there is none", EdgesTest::leastWeightOfEmpty);
        Checks.sentence("16: The word of code c with the least distance", EdgesTest::nearestInEmptyAndFull);
        Checks.sentence("16: of several the least one", EdgesTest::nearestOfSeveral);
        Checks.sentence("16: a word that is not 0 to 2^n - 1 answers BAD_ARG", EdgesTest::nearestToBadWord);
    }

    private static void questionsAboutCodes() {
        Checks.sentence("17: How many cosets have d as the least weight", EdgesTest::cosetsOfEmptyAndFull);
        Checks.sentence("17: the least weight of their words", EdgesTest::cosetsOfTwoWords);
        Checks.sentence("17: (0 if d is not 0 to n)", EdgesTest::cosetsOutOfRange);
        Checks.sentence("18: The greatest distance", EdgesTest::radiusOfEmptyAndFull);
        Checks.sentence("18: from the word of code c nearest to it", EdgesTest::radiusOfTwoWords);
        Checks.sentence("19: 1 if the set of places is an information set", EdgesTest::emptyAndFullSets);
        Checks.sentence("19: else 0", EdgesTest::setsOfTheRightSizeAlone);
        Checks.sentence("19: a word that is not 0 to 2^n - 1 answers BAD_ARG", EdgesTest::badSets);
        Checks.sentence("20: How many information sets code c has", EdgesTest::countOfSets);
        Checks.sentence("21: 1 if each word of code 0 is orthogonal to each word of code 1",
                EdgesTest::orthogonalWithEmpty);
        Checks.sentence("21: else 0", EdgesTest::orthogonalButForOneWord);
    }

    private static void due(String what, long got, long want) {
        Checks.due(what, got, want);
    }

    /** Code 0 has the word 0 only, code 1 has all words. */
    private static LinearCodes emptyAndFull(int n) {
        return Checks.withCodes(n, NOTHING, Checks.unitWords(n));
    }

    private static String at(int n) {
        return " of length " + n;
    }

    private static void dueLength(int length, int n) {
        LinearCodes x = new LinearCodes(length);
        due("new LinearCodes(" + length + ").length()", x.length(), n);
        due("has(0, greatest)" + at(length), x.has(0, Checks.greatestWord(n)), 0);
        due("has(0, greatest + 1)" + at(length), x.has(0, 1 << n), BAD_ARG);
        due("shorten(0, last place)" + at(length), x.shorten(0, n - 1), 0);
        due("shorten(0, past the last place)" + at(length), x.shorten(0, n), BAD_ARG);
        due("dualize(1)" + at(length), x.dualize(1), n);
    }

    private static void lengthsInTheRange() {
        Checks.forEachLength(n -> dueLength(n, n));
    }

    private static void lengthsBelowTheRange() {
        for (int length : new int[] {1, 0, -1, -2, -10, Integer.MIN_VALUE, Integer.MIN_VALUE + 2}) {
            dueLength(length, 2);
        }
    }

    private static void lengthsAboveTheRange() {
        for (int length : new int[] {11, 12, 31, 32, 34, 1024, (1 << 16) + 5, Integer.MAX_VALUE}) {
            dueLength(length, 10);
        }
    }

    private static void newCodes() {
        for (int length = 0; length <= 12; length++) {
            LinearCodes x = new LinearCodes(length);
            for (int c = 0; c <= 1; c++) {
                due("dimension(" + c + ")" + at(length), x.dimension(c), 0);
                due("has(" + c + ", 0)" + at(length), x.has(c, 0), 1);
                due("wordAt(" + c + ", 0)" + at(length), x.wordAt(c, 0), 0);
                due("wordAt(" + c + ", 1)" + at(length), x.wordAt(c, 1), NONE);
            }
        }
    }

    private static void addWhatItHas() {
        Checks.forEachLength(n -> {
            int greatest = Checks.greatestWord(n);
            LinearCodes x = new LinearCodes(n);
            due("add(0, 0) to the word 0" + at(n), x.add(0, 0), 0);
            due("wordAt(0, 1) then", x.wordAt(0, 1), NONE);
            due("add(0, greatest)" + at(n), x.add(0, greatest), 1);
            due("wordAt(0, 1) then", x.wordAt(0, 1), greatest);
            due("wordAt(0, 2) then", x.wordAt(0, 2), NONE);
            due("add(0, greatest) again" + at(n), x.add(0, greatest), 1);
            due("add(0, 0)" + at(n), x.add(0, 0), 1);
            due("wordAt(0, 2) still", x.wordAt(0, 2), NONE);
            due("dimension(1), the other code", x.dimension(1), 0);
        });
    }

    private static void addUntilFull() {
        Checks.forEachLength(n -> {
            LinearCodes x = new LinearCodes(n);
            for (int place = n - 1; place >= 0; place--) {
                due("add(0, place " + place + ")" + at(n), x.add(0, 1 << place), n - place);
                due("has(0, all places so far)", x.has(0, (1 << n) - (1 << place)), 1);
                due("has(0, the next place)", x.has(0, (1 << place) >> 1), place == 0 ? 1 : 0);
            }
            for (int word : new int[] {0, 1, Checks.greatestWord(n)}) {
                due("add(0, " + word + ") to all words" + at(n), x.add(0, word), n);
            }
        });
    }

    private static void addBadWord() {
        Checks.forEachLength(n -> {
            for (int bad : Checks.badWords(n)) {
                LinearCodes x = Checks.withCodes(n, new int[] {2}, NOTHING);
                due("add(0, " + bad + ")" + at(n), x.add(0, bad), BAD_ARG);
                due("add(1, " + bad + ")" + at(n), x.add(1, bad), BAD_ARG);
                due("dimension(0) then", x.dimension(0), 1);
                due("wordAt(0, 1) then", x.wordAt(0, 1), 2);
                due("dimension(1) then", x.dimension(1), 0);
            }
        });
    }

    private static void clearLeavesTheWord0() {
        Checks.forEachLength(n -> {
            for (int[] words : Checks.kindsOfCodes(n)) {
                for (int c = 0; c <= 1; c++) {
                    LinearCodes x = Checks.withCodes(n, words, words);
                    int dimension = x.dimension(1 - c);
                    x.clear(c);
                    due("dimension(" + c + ") after clear" + at(n), x.dimension(c), 0);
                    due("wordAt(" + c + ", 0) after clear", x.wordAt(c, 0), 0);
                    due("wordAt(" + c + ", 1) after clear", x.wordAt(c, 1), NONE);
                    due("dimension of the other code after clear", x.dimension(1 - c), dimension);
                }
            }
        });
    }

    private static void clearAnswersTheDimensionBefore() {
        Checks.forEachLength(n -> {
            LinearCodes x = emptyAndFull(n);
            due("clear(0) of the word 0" + at(n), x.clear(0), 0);
            due("clear(1) of all words" + at(n), x.clear(1), n);
            due("clear(1) again" + at(n), x.clear(1), 0);
        });
    }

    private static void dualOfEmptyAndFull() {
        Checks.forEachLength(n -> {
            LinearCodes x = emptyAndFull(n);
            x.dualize(0);
            x.dualize(1);
            due("has(0, greatest) after dualize" + at(n), x.has(0, Checks.greatestWord(n)), 1);
            due("wordAt(0, greatest) after dualize", x.wordAt(0, Checks.greatestWord(n)), Checks.greatestWord(n));
            due("wordAt(1, 0) after dualize", x.wordAt(1, 0), 0);
            due("wordAt(1, 1) after dualize", x.wordAt(1, 1), NONE);
            // The dual of the greatest word has the even words, which have it too if n is even.
            LinearCodes even = Checks.withCode(n, Checks.greatestWord(n));
            even.dualize(0);
            due("has(0, 3) of the dual of the greatest", even.has(0, 3), 1);
            due("has(0, 1) of the dual of the greatest", even.has(0, 1), 0);
            due("has(0, greatest) of its dual" + at(n), even.has(0, Checks.greatestWord(n)), n % 2 == 0 ? 1 : 0);
        });
    }

    private static void dualizeAnswersTheDimensionThen() {
        Checks.forEachLength(n -> {
            LinearCodes x = emptyAndFull(n);
            due("dualize(0) of the word 0" + at(n), x.dualize(0), n);
            due("dualize(1) of all words" + at(n), x.dualize(1), 0);
            due("dualize(0) of all words" + at(n), x.dualize(0), 0);
            due("dualize(1) of the word 0" + at(n), x.dualize(1), n);
        });
    }

    private static void shortenAtEachPlace() {
        Checks.forEachLength(n -> {
            for (int place = 0; place < n; place++) {
                String where = " at place " + place + at(n);
                LinearCodes x = emptyAndFull(n);
                due("shorten(0) of the word 0" + where, x.shorten(0, place), 0);
                due("shorten(1) of all words" + where, x.shorten(1, place), n - 1);
                due("has(1, the place) then", x.has(1, 1 << place), 0);
                due("has(1, all others) then", x.has(1, Checks.greatestWord(n) - (1 << place)), 1);
                LinearCodes one = Checks.withCode(n, Checks.greatestWord(n));
                due("shorten(0) of the greatest" + where, one.shorten(0, place), 0);
                due("wordAt(0, 1) then", one.wordAt(0, 1), NONE);
                LinearCodes even = Checks.withCode(n, Checks.evenWords(n));
                due("shorten(0) of the even words" + where, even.shorten(0, place), n - 2);
            }
        });
    }

    private static void shortenWhereAllAre0() {
        Checks.forEachLength(n -> {
            LinearCodes x = Checks.withCode(n, 1);
            due("shorten(0, the last place) of 1" + at(n), x.shorten(0, n - 1), 1);
            due("has(0, 1) then", x.has(0, 1), 1);
            due("shorten(0, 0) of 1" + at(n), x.shorten(0, 0), 0);
            due("has(0, 1) then", x.has(0, 1), 0);
            due("shorten(0, 0) again" + at(n), x.shorten(0, 0), 0);
            due("has(0, 0) then", x.has(0, 0), 1);
        });
    }

    private static void shortenAtBadPlace() {
        Checks.forEachLength(n -> {
            for (int bad : Checks.badPlaces(n)) {
                LinearCodes x = emptyAndFull(n);
                due("shorten(0, " + bad + ")" + at(n), x.shorten(0, bad), BAD_ARG);
                due("shorten(1, " + bad + ")" + at(n), x.shorten(1, bad), BAD_ARG);
                due("dimension(1) then", x.dimension(1), n);
            }
        });
    }

    private static void punctureAtEachPlace() {
        Checks.forEachLength(n -> {
            for (int place = 0; place < n; place++) {
                String where = " at place " + place + at(n);
                int others = Checks.greatestWord(n) - (1 << place);
                LinearCodes x = emptyAndFull(n);
                due("puncture(0) of the word 0" + where, x.puncture(0, place), 0);
                due("puncture(1) of all words" + where, x.puncture(1, place), n - 1);
                due("has(1, the place) then", x.has(1, 1 << place), 0);
                due("has(1, all others) then", x.has(1, others), 1);
                LinearCodes one = Checks.withCodes(n, new int[] {Checks.greatestWord(n)}, new int[] {1 << place});
                due("puncture(0) of the greatest" + where, one.puncture(0, place), 1);
                due("wordAt(0, 1) then", one.wordAt(0, 1), others);
                due("puncture(1) of the place alone" + where, one.puncture(1, place), 0);
                due("wordAt(1, 1) then", one.wordAt(1, 1), NONE);
                LinearCodes even = Checks.withCode(n, Checks.evenWords(n));
                due("puncture(0) of the even words" + where, even.puncture(0, place), n - 1);
                due("length() then", even.length(), n);
            }
        });
    }

    private static void punctureWhereAllAre0() {
        Checks.forEachLength(n -> {
            LinearCodes x = Checks.withCode(n, 1);
            due("puncture(0, the last place) of 1" + at(n), x.puncture(0, n - 1), 1);
            due("has(0, 1) then", x.has(0, 1), 1);
            due("puncture(0, 0) of 1" + at(n), x.puncture(0, 0), 0);
            due("puncture(0, 0) again" + at(n), x.puncture(0, 0), 0);
            due("has(0, 1) then", x.has(0, 1), 0);
            due("has(0, 0) then", x.has(0, 0), 1);
        });
    }

    private static void punctureAtBadPlace() {
        Checks.forEachLength(n -> {
            for (int bad : Checks.badPlaces(n)) {
                LinearCodes x = emptyAndFull(n);
                due("puncture(0, " + bad + ")" + at(n), x.puncture(0, bad), BAD_ARG);
                due("puncture(1, " + bad + ")" + at(n), x.puncture(1, bad), BAD_ARG);
                due("dimension(1) then", x.dimension(1), n);
            }
        });
    }

    private static void exchangeEachTwoPlaces() {
        Checks.forEachLength(n -> {
            for (int i = 0; i < n; i++) {
                for (int j = 0; j < n; j++) {
                    String where = " after exchange(0, " + i + ", " + j + ")" + at(n);
                    LinearCodes x = Checks.withCodes(n, new int[] {1 << i}, new int[] {1 << i});
                    x.exchange(0, i, j);
                    due("wordAt(0, 1)" + where, x.wordAt(0, 1), 1 << j);
                    due("wordAt(0, 2)" + where, x.wordAt(0, 2), NONE);
                    due("wordAt(1, 1)" + where, x.wordAt(1, 1), 1 << i);
                    x.exchange(0, i, j);
                    due("wordAt(0, 1) when exchanged back" + where, x.wordAt(0, 1), 1 << i);
                    LinearCodes both = Checks.withCode(n, 1 << i | 1 << j);
                    both.exchange(0, i, j);
                    due("wordAt(0, 1), both places 1" + where, both.wordAt(0, 1), 1 << i | 1 << j);
                }
            }
        });
    }

    private static void exchangeTheSamePlace() {
        Checks.forEachLength(n -> {
            for (int[] words : Checks.kindsOfCodes(n)) {
                LinearCodes x = Checks.withCodes(n, words, words);
                String before = Checks.picture(x);
                int dimension = x.dimension(0);
                for (int place = 0; place < n; place++) {
                    due("exchange(0, " + place + ", the same)" + at(n), x.exchange(0, place, place), dimension);
                }
                Checks.due("the codes after exchange of the same places", Checks.picture(x), before);
            }
        });
    }

    private static void exchangeBadPlaces() {
        Checks.forEachLength(n -> {
            for (int bad : Checks.badPlaces(n)) {
                LinearCodes x = Checks.withCodes(n, new int[] {1}, new int[] {1 << (n - 1)});
                for (int c = 0; c <= 1; c++) {
                    due("exchange(" + c + ", " + bad + ", 0)" + at(n), x.exchange(c, bad, 0), BAD_ARG);
                    due("exchange(" + c + ", 0, " + bad + ")" + at(n), x.exchange(c, 0, bad), BAD_ARG);
                    due("exchange(" + c + ", " + bad + ", last)" + at(n), x.exchange(c, bad, n - 1), BAD_ARG);
                    due("exchange(" + c + ", last, " + bad + ")" + at(n), x.exchange(c, n - 1, bad), BAD_ARG);
                    due("exchange(" + c + ", " + bad + ", the same)" + at(n), x.exchange(c, bad, bad), BAD_ARG);
                }
                due("wordAt(0, 1) then", x.wordAt(0, 1), 1);
                due("wordAt(1, 1) then", x.wordAt(1, 1), 1 << (n - 1));
            }
        });
    }

    private static void exchangeAnswersTheDimension() {
        Checks.forEachLength(n -> {
            LinearCodes x = emptyAndFull(n);
            due("exchange(0, 0, last) of the word 0" + at(n), x.exchange(0, 0, n - 1), 0);
            due("exchange(1, last, 0) of all words" + at(n), x.exchange(1, n - 1, 0), n);
            due("exchange(0, 0, last) of the even words" + at(n),
                    Checks.withCode(n, Checks.evenWords(n)).exchange(0, 0, n - 1), n - 1);
        });
    }

    private static void meetEmptyAndFull() {
        Checks.forEachLength(n -> {
            int[] all = Checks.unitWords(n);
            int[] greatest = {Checks.greatestWord(n)};
            due("meet() of 0 and 0" + at(n), new LinearCodes(n).meet(), 0);
            due("meet() of 0 and all" + at(n), Checks.withCodes(n, NOTHING, all).meet(), 0);
            due("meet() of all and 0" + at(n), Checks.withCodes(n, all, NOTHING).meet(), 0);
            due("meet() of all and all" + at(n), Checks.withCodes(n, all, all).meet(), n);
            due("meet() of all and one" + at(n), Checks.withCodes(n, all, greatest).meet(), 1);
            due("meet() of one and all" + at(n), Checks.withCodes(n, greatest, all).meet(), 1);
            due("meet() of one and the same" + at(n), Checks.withCodes(n, greatest, greatest).meet(), 1);
            LinearCodes apart = Checks.withCodes(n, new int[] {1}, greatest);
            due("meet() of two that share the word 0 only" + at(n), apart.meet(), 0);
            due("has(0, 0) then", apart.has(0, 0), 1);
            due("has(0, 1) then", apart.has(0, 1), 0);
        });
    }

    private static void meetLeavesCode1() {
        Checks.forEachLength(n -> {
            LinearCodes x = emptyAndFull(n);
            x.meet();
            due("dimension(1) after meet() of 0 and all" + at(n), x.dimension(1), n);
            due("dimension(0) after meet() of 0 and all" + at(n), x.dimension(0), 0);
            LinearCodes y = Checks.withCodes(n, Checks.unitWords(n), new int[] {Checks.greatestWord(n)});
            y.meet();
            due("wordAt(0, 1) after meet() of all and the greatest", y.wordAt(0, 1), Checks.greatestWord(n));
            due("wordAt(1, 1) after meet() of all and the greatest", y.wordAt(1, 1), Checks.greatestWord(n));
            due("meet() again" + at(n), y.meet(), 1);
        });
    }

    private static void lengthStays() {
        Checks.forEachLength(n -> {
            LinearCodes x = emptyAndFull(n);
            for (Call change : Call.CHANGES) {
                change.of(x, 1, 0, n - 1);
                due("length() after " + change.name() + " at the ends of the ranges", x.length(), n);
                change.of(x, 1, -1, n);
                due("length() after " + change.name() + " past the ends of the ranges", x.length(), n);
            }
        });
    }

    private static void dimensionOfEmptyAndFull() {
        Checks.forEachLength(n -> {
            LinearCodes x = emptyAndFull(n);
            due("dimension(0) of the word 0" + at(n), x.dimension(0), 0);
            due("dimension(1) of all words" + at(n), x.dimension(1), n);
            due("dimension(0) of one word" + at(n), Checks.withCode(n, 1).dimension(0), 1);
            due("dimension(0) of the even words" + at(n), Checks.withCode(n, Checks.evenWords(n)).dimension(0), n - 1);
        });
    }

    private static void hasInEmptyAndFull() {
        Checks.forEachLength(n -> {
            LinearCodes x = emptyAndFull(n);
            for (int word : new int[] {1, 2, 1 << (n - 1), Checks.greatestWord(n)}) {
                due("has(0, " + word + ") in the word 0" + at(n), x.has(0, word), 0);
                due("has(1, " + word + ") in all words" + at(n), x.has(1, word), 1);
            }
            due("has(0, 0)" + at(n), x.has(0, 0), 1);
            due("has(1, 0)" + at(n), x.has(1, 0), 1);
        });
    }

    private static void hasBadWord() {
        Checks.forEachLength(n -> {
            for (int bad : Checks.badWords(n)) {
                LinearCodes x = emptyAndFull(n);
                due("has(0, " + bad + ")" + at(n), x.has(0, bad), BAD_ARG);
                due("has(1, " + bad + ")" + at(n), x.has(1, bad), BAD_ARG);
            }
        });
    }

    private static void wordAtFirstAndLast() {
        Checks.forEachLength(n -> {
            int greatest = Checks.greatestWord(n);
            LinearCodes x = emptyAndFull(n);
            due("wordAt(0, 0) of the word 0" + at(n), x.wordAt(0, 0), 0);
            for (int i : new int[] {0, 1, greatest - 1, greatest}) {
                due("wordAt(1, " + i + ") of all words" + at(n), x.wordAt(1, i), i);
            }
            LinearCodes one = Checks.withCode(n, greatest);
            due("wordAt(0, 0) of the greatest" + at(n), one.wordAt(0, 0), 0);
            due("wordAt(0, 1) of the greatest" + at(n), one.wordAt(0, 1), greatest);
            LinearCodes even = Checks.withCode(n, Checks.evenWords(n));
            due("wordAt(0, 1) of the even words" + at(n), even.wordAt(0, 1), 3);
            due("wordAt(0, last) of the even words" + at(n),
                    even.wordAt(0, (1 << (n - 1)) - 1), n % 2 == 0 ? greatest : greatest - 1);
        });
    }

    private static void wordAtPastTheLast() {
        Checks.forEachLength(n -> {
            for (int[] words : Checks.kindsOfCodes(n)) {
                LinearCodes x = Checks.withCode(n, words);
                int count = 1 << x.dimension(0);
                for (int i : new int[] {count, count + 1, 1 << n, 1024, 2048, Integer.MAX_VALUE}) {
                    due("wordAt(0, " + i + ") of " + count + " words" + at(n), x.wordAt(0, i), NONE);
                }
            }
        });
    }

    private static void wordAtBeforeTheFirst() {
        Checks.forEachLength(n -> {
            LinearCodes x = emptyAndFull(n);
            for (int i : new int[] {-1, -2, -(1 << n), Integer.MIN_VALUE, Integer.MIN_VALUE + 1}) {
                due("wordAt(0, " + i + ")" + at(n), x.wordAt(0, i), NONE);
                due("wordAt(1, " + i + ")" + at(n), x.wordAt(1, i), NONE);
            }
        });
    }

    private static void weightsOfEmptyAndFull() {
        Checks.forEachLength(n -> {
            LinearCodes x = emptyAndFull(n);
            for (int w = 0; w <= n; w++) {
                due("weights(0, " + w + ") of the word 0" + at(n), x.weights(0, w), w == 0 ? 1 : 0);
                due("weights(1, " + w + ") of all words" + at(n), x.weights(1, w), Checks.wordsOfWeight(n, w));
            }
        });
    }

    private static int[] outsideOf0To(int n) {
        return new int[] {-1, n + 1, -n, n + 32, 1 << n, Integer.MIN_VALUE, Integer.MAX_VALUE};
    }

    private static void weightsOutOfRange() {
        Checks.forEachLength(n -> {
            LinearCodes x = emptyAndFull(n);
            for (int w : outsideOf0To(n)) {
                due("weights(0, " + w + ")" + at(n), x.weights(0, w), 0);
                due("weights(1, " + w + ")" + at(n), x.weights(1, w), 0);
            }
        });
    }

    private static void dualWeightsOfEmptyAndFull() {
        Checks.forEachLength(n -> {
            LinearCodes x = emptyAndFull(n);
            LinearCodes greatest = Checks.withCode(n, Checks.greatestWord(n));
            for (int w = 0; w <= n; w++) {
                int count = Checks.wordsOfWeight(n, w);
                due("dualWeights(0, " + w + ") of the word 0" + at(n), x.dualWeights(0, w), count);
                due("dualWeights(1, " + w + ") of all words" + at(n), x.dualWeights(1, w), w == 0 ? 1 : 0);
                due("dualWeights(0, " + w + ") of the greatest" + at(n),
                        greatest.dualWeights(0, w), w % 2 == 0 ? count : 0);
            }
            due("dimension(0) after dualWeights", x.dimension(0), 0);
            due("dimension(1) after dualWeights", x.dimension(1), n);
        });
    }

    private static void dualWeightsOutOfRange() {
        Checks.forEachLength(n -> {
            LinearCodes x = emptyAndFull(n);
            for (int w : outsideOf0To(n)) {
                due("dualWeights(0, " + w + ")" + at(n), x.dualWeights(0, w), 0);
                due("dualWeights(1, " + w + ")" + at(n), x.dualWeights(1, w), 0);
            }
        });
    }

    private static void leastWeightFrom1ToN() {
        Checks.forEachLength(n -> {
            for (int w = 1; w <= n; w++) {
                due("leastWeight(0) of w places" + at(n), Checks.withCode(n, (1 << w) - 1).leastWeight(0), w);
                due("leastWeight(0) of the last w places" + at(n),
                        Checks.withCode(n, (1 << n) - (1 << (n - w))).leastWeight(0), w);
            }
            due("leastWeight(0) of all words" + at(n), Checks.withCode(n, Checks.unitWords(n)).leastWeight(0), 1);
            due("leastWeight(0) of the even words" + at(n), Checks.withCode(n, Checks.evenWords(n)).leastWeight(0), 2);
        });
    }

    private static void leastWeightOfEmpty() {
        Checks.forEachLength(n -> {
            LinearCodes x = emptyAndFull(n);
            due("leastWeight(0) of the word 0" + at(n), x.leastWeight(0), NONE);
            x.dualize(1);
            due("leastWeight(1) of the dual of all" + at(n), x.leastWeight(1), NONE);
            x.add(0, 0);
            due("leastWeight(0) after add(0, 0)" + at(n), x.leastWeight(0), NONE);
            x.add(0, 1);
            x.shorten(0, 0);
            due("leastWeight(0) after shorten" + at(n), x.leastWeight(0), NONE);
            x.add(0, 1);
            x.puncture(0, 0);
            due("leastWeight(0) after puncture" + at(n), x.leastWeight(0), NONE);
        });
    }

    private static void nearestInEmptyAndFull() {
        Checks.forEachLength(n -> {
            LinearCodes x = emptyAndFull(n);
            LinearCodes one = Checks.withCode(n, Checks.greatestWord(n));
            for (int word : new int[] {0, 1, 1 << (n - 1), Checks.greatestWord(n)}) {
                due("nearest(0, " + word + ") in the word 0" + at(n), x.nearest(0, word), 0);
                due("nearest(1, " + word + ") in all words" + at(n), x.nearest(1, word), word);
            }
            due("nearest(0, the greatest) when it has it" + at(n),
                    one.nearest(0, Checks.greatestWord(n)), Checks.greatestWord(n));
        });
    }

    private static void nearestOfSeveral() {
        Checks.forEachLength(n -> {
            int greatest = Checks.greatestWord(n);
            // One from each of the two least words, then from each of the two greatest.
            LinearCodes low = Checks.withCode(n, 3);
            due("nearest(0, 1) of 0, 3" + at(n), low.nearest(0, 1), 0);
            due("nearest(0, 2) of 0, 3" + at(n), low.nearest(0, 2), 0);
            LinearCodes high = Checks.withCode(n, 3, greatest - 3);
            due("nearest(0, greatest - 1), one from two words" + at(n), high.nearest(0, greatest - 1), greatest - 3);
            due("nearest(0, greatest - 2), one from two words" + at(n), high.nearest(0, greatest - 2), greatest - 3);
            LinearCodes even = Checks.withCode(n, Checks.evenWords(n));
            due("nearest(0, 1) of the even words" + at(n), even.nearest(0, 1), 0);
            int last = 1 << (n - 1);
            due("nearest(0, the last place) of the even words" + at(n), even.nearest(0, last), 0);
        });
        LinearCodes half = Checks.withCode(10, 1023);
        due("nearest(0, 31), five from 0 and from 1023", half.nearest(0, 31), 0);
        due("nearest(0, 63), four from 1023 and six from 0", half.nearest(0, 63), 1023);
    }

    private static void nearestToBadWord() {
        Checks.forEachLength(n -> {
            for (int bad : Checks.badWords(n)) {
                LinearCodes x = emptyAndFull(n);
                due("nearest(0, " + bad + ")" + at(n), x.nearest(0, bad), BAD_ARG);
                due("nearest(1, " + bad + ")" + at(n), x.nearest(1, bad), BAD_ARG);
            }
        });
    }

    private static void cosetsOfEmptyAndFull() {
        Checks.forEachLength(n -> {
            LinearCodes x = emptyAndFull(n);
            for (int d = 0; d <= n; d++) {
                due("cosets(0, " + d + ") of the word 0" + at(n), x.cosets(0, d), Checks.wordsOfWeight(n, d));
                due("cosets(1, " + d + ") of all words" + at(n), x.cosets(1, d), d == 0 ? 1 : 0);
            }
        });
    }

    private static void cosetsOfTwoWords() {
        Checks.forEachLength(n -> {
            LinearCodes x = Checks.withCode(n, Checks.greatestWord(n));
            for (int d = 0; d <= n; d++) {
                // A coset has a word of weight d and one of n - d; both are of the same weight at the middle.
                int words = Checks.wordsOfWeight(n, d);
                int cosets = 2 * d < n ? words : 2 * d == n ? words / 2 : 0;
                due("cosets(0, " + d + ") of the greatest" + at(n), x.cosets(0, d), cosets);
            }
            LinearCodes even = Checks.withCode(n, Checks.evenWords(n));
            for (int d = 0; d <= n; d++) {
                due("cosets(0, " + d + ") of the even words" + at(n), even.cosets(0, d), d <= 1 ? 1 : 0);
            }
        });
    }

    private static void cosetsOutOfRange() {
        Checks.forEachLength(n -> {
            LinearCodes x = emptyAndFull(n);
            for (int d : outsideOf0To(n)) {
                due("cosets(0, " + d + ")" + at(n), x.cosets(0, d), 0);
                due("cosets(1, " + d + ")" + at(n), x.cosets(1, d), 0);
            }
        });
    }

    private static void radiusOfEmptyAndFull() {
        Checks.forEachLength(n -> {
            LinearCodes x = emptyAndFull(n);
            due("radius(0) of the word 0" + at(n), x.radius(0), n);
            due("radius(1) of all words" + at(n), x.radius(1), 0);
        });
    }

    private static void radiusOfTwoWords() {
        Checks.forEachLength(n -> {
            due("radius(0) of the greatest" + at(n), Checks.withCode(n, Checks.greatestWord(n)).radius(0), n / 2);
            due("radius(0) of 1" + at(n), Checks.withCode(n, 1).radius(0), n - 1);
            due("radius(0) of the last place" + at(n), Checks.withCode(n, 1 << (n - 1)).radius(0), n - 1);
            due("radius(0) of the even words" + at(n), Checks.withCode(n, Checks.evenWords(n)).radius(0), 1);
        });
    }

    private static void emptyAndFullSets() {
        Checks.forEachLength(n -> {
            int greatest = Checks.greatestWord(n);
            LinearCodes x = emptyAndFull(n);
            due("isInformation(0, no place) of the word 0" + at(n), x.isInformation(0, 0), 1);
            due("isInformation(0, all places) of the word 0" + at(n), x.isInformation(0, greatest), 0);
            due("isInformation(1, all places) of all words" + at(n), x.isInformation(1, greatest), 1);
            due("isInformation(1, no place) of all words" + at(n), x.isInformation(1, 0), 0);
        });
    }

    private static void setsOfTheRightSizeAlone() {
        Checks.forEachLength(n -> {
            LinearCodes x = Checks.withCodes(n, new int[] {1 << (n - 1)}, new int[] {Checks.greatestWord(n)});
            for (int place = 0; place < n; place++) {
                due("isInformation(0, place " + place + ") of the last place" + at(n),
                        x.isInformation(0, 1 << place), place == n - 1 ? 1 : 0);
                due("isInformation(1, place " + place + ") of the greatest" + at(n), x.isInformation(1, 1 << place), 1);
            }
            due("isInformation(0, no place) of the last place" + at(n), x.isInformation(0, 0), 0);
            due("isInformation(1, two places) of the greatest" + at(n), x.isInformation(1, 3), 0);
        });
    }

    private static void badSets() {
        Checks.forEachLength(n -> {
            for (int bad : Checks.badWords(n)) {
                LinearCodes x = emptyAndFull(n);
                due("isInformation(0, " + bad + ")" + at(n), x.isInformation(0, bad), BAD_ARG);
                due("isInformation(1, " + bad + ")" + at(n), x.isInformation(1, bad), BAD_ARG);
            }
        });
    }

    private static void countOfSets() {
        Checks.forEachLength(n -> {
            LinearCodes x = emptyAndFull(n);
            due("informationSets(0) of the word 0, the empty set" + at(n), x.informationSets(0), 1);
            due("informationSets(1) of all words, the full set" + at(n), x.informationSets(1), 1);
            due("informationSets(0) of 1" + at(n), Checks.withCode(n, 1).informationSets(0), 1);
            due("informationSets(0) of the greatest" + at(n),
                    Checks.withCode(n, Checks.greatestWord(n)).informationSets(0), n);
            due("informationSets(0) of the even words" + at(n),
                    Checks.withCode(n, Checks.evenWords(n)).informationSets(0), n);
        });
    }

    private static void orthogonalWithEmpty() {
        Checks.forEachLength(n -> {
            int[] all = Checks.unitWords(n);
            due("orthogonal() of 0 and 0" + at(n), new LinearCodes(n).orthogonal(), 1);
            due("orthogonal() of 0 and all" + at(n), Checks.withCodes(n, NOTHING, all).orthogonal(), 1);
            due("orthogonal() of all and 0" + at(n), Checks.withCodes(n, all, NOTHING).orthogonal(), 1);
            due("orthogonal() of the even words and the greatest" + at(n),
                    Checks.withCodes(n, Checks.evenWords(n), new int[] {Checks.greatestWord(n)}).orthogonal(), 1);
        });
    }

    private static void orthogonalButForOneWord() {
        Checks.forEachLength(n -> {
            int[] all = Checks.unitWords(n);
            for (int place = 0; place < n; place++) {
                int[] one = {1 << place};
                due("orthogonal() of all and place " + place + at(n), Checks.withCodes(n, all, one).orthogonal(), 0);
                due("orthogonal() of place " + place + " and all" + at(n),
                        Checks.withCodes(n, one, all).orthogonal(), 0);
                LinearCodes others = Checks.withCodes(n, all, one);
                others.shorten(0, place);
                due("orthogonal() of the other places and place " + place + at(n), others.orthogonal(), 1);
            }
        });
    }
}
