/** The promises of the document one by one, with answers that were worked out by hand. */
public final class PromisesTest {
    private static final int BAD_ARG = LinearCodes.BAD_ARG;
    private static final int NONE = LinearCodes.NONE;

    /** A cyclic form of the Hamming code of 7 places; its dual has all seven shifts of 23 and 0. */
    private static final int[] HAMMING = {11, 22, 44, 88};

    public static void main(String[] args) {
        promise1NewObject();
        promise2Add();
        promise3Clear();
        promise4Dualize();
        promise5Shorten();
        promise6Puncture();
        promise7Exchange();
        promise8Meet();
        promise9Length();
        promise10Dimension();
        promise11Has();
        promise12WordAt();
        promise13Weights();
        promise14DualWeights();
        promise15LeastWeight();
        promise16Nearest();
        promise17Cosets();
        promise18Radius();
        promise19IsInformation();
        promise20InformationSets();
        promise21Orthogonal();
        everyCodeHasTheWord0();
        codeIsTestedBeforeOtherArguments();
        refusedCallsChangeNothing();
        Checks.end();
    }

    private static void due(String what, long got, long want) {
        Checks.due(what, got, want);
    }

    private static void dueWords(String what, LinearCodes x, int c, String want) {
        Checks.due("after " + what + " code " + c, Checks.words(x, c), want);
    }

    private static void promise1NewObject() {
        int[][] lengthsAndClamped = {
            {Integer.MIN_VALUE, 2}, {-1, 2}, {0, 2}, {1, 2}, {2, 2}, {3, 3}, {4, 4}, {5, 5}, {6, 6},
            {7, 7}, {8, 8}, {9, 9}, {10, 10}, {11, 10}, {32, 10}, {Integer.MAX_VALUE, 10}};
        for (int[] pair : lengthsAndClamped) {
            String what = "new LinearCodes(" + pair[0] + ")";
            LinearCodes x = new LinearCodes(pair[0]);
            int n = pair[1];
            due(what + ".length()", x.length(), n);
            for (int c = 0; c <= 1; c++) {
                due(what + ".dimension(" + c + ")", x.dimension(c), 0);
                due(what + ".wordAt(" + c + ", 0)", x.wordAt(c, 0), 0);
                due(what + ".wordAt(" + c + ", 1)", x.wordAt(c, 1), NONE);
                due(what + ".has(" + c + ", greatest)", x.has(c, (1 << n) - 1), 0);
                due(what + ".has(" + c + ", 2^n)", x.has(c, 1 << n), BAD_ARG);
            }
        }
        dueWords("new", new LinearCodes(6), 0, "0");
        dueWords("new", new LinearCodes(6), 1, "0");
    }

    private static void promise2Add() {
        LinearCodes x = new LinearCodes(4);
        due("add(0, 0)", x.add(0, 0), 0);
        dueWords("add 0", x, 0, "0");
        due("add(0, 3)", x.add(0, 3), 1);
        dueWords("add 3", x, 0, "0 3");
        due("add(0, 3) again", x.add(0, 3), 1);
        due("add(0, 5)", x.add(0, 5), 2);
        dueWords("add 3, 5", x, 0, "0 3 5 6");
        due("add(0, 6), had already", x.add(0, 6), 2);
        dueWords("add 3, 5, 6", x, 0, "0 3 5 6");
        due("add(0, 15)", x.add(0, 15), 3);
        dueWords("add 3, 5, 15", x, 0, "0 3 5 6 9 10 12 15");
        dueWords("add to code 0", x, 1, "0");
        due("add(1, 8)", x.add(1, 8), 1);
        dueWords("add 8", x, 1, "0 8");
        dueWords("add to code 1", x, 0, "0 3 5 6 9 10 12 15");
        due("add(0, 1)", x.add(0, 1), 4);
        dueWords("add all", x, 0, "0 1 2 3 4 5 6 7 8 9 10 11 12 13 14 15");

        LinearCodes long10 = new LinearCodes(10);
        for (int place = 0; place < 10; place++) {
            due("add(1, 1 << " + place + ")", long10.add(1, 1 << place), place + 1);
        }
        due("add(1, 1023) to all words", long10.add(1, 1023), 10);

        for (int bad : Checks.BAD_CODES) {
            due("add(" + bad + ", 1)", x.add(bad, 1), BAD_ARG);
        }
        for (int bad : Checks.badWords(4)) {
            due("add(0, " + bad + ")", x.add(0, bad), BAD_ARG);
        }
    }

    private static void promise3Clear() {
        LinearCodes x = Checks.withCode(5, 3, 12, 16);
        Checks.addAll(x, 1, 31);
        due("clear(0)", x.clear(0), 3);
        dueWords("clear(0)", x, 0, "0");
        dueWords("clear(0)", x, 1, "0 31");
        due("clear(0) again", x.clear(0), 0);
        due("clear(1)", x.clear(1), 1);
        dueWords("clear(1)", x, 1, "0");
        x.dualize(1);
        due("clear(1) of all words", x.clear(1), 5);
        dueWords("clear(1) of all words", x, 1, "0");
        for (int bad : Checks.BAD_CODES) {
            due("clear(" + bad + ")", x.clear(bad), BAD_ARG);
        }
    }

    private static void promise4Dualize() {
        LinearCodes x = new LinearCodes(3);
        due("dualize(0) of 0", x.dualize(0), 3);
        dueWords("dualize(0) of 0", x, 0, "0 1 2 3 4 5 6 7");
        dueWords("dualize(0)", x, 1, "0");
        due("dualize(0) of all", x.dualize(0), 0);
        dueWords("dualize(0) of all", x, 0, "0");
        x.add(1, 7);
        due("dualize(1) of 7", x.dualize(1), 2);
        dueWords("dualize(1) of 7", x, 1, "0 3 5 6");
        due("dualize(1) back", x.dualize(1), 1);
        dueWords("dualize(1) back", x, 1, "0 7");

        // A code that is its own dual, and one whose dual shares only a part with it.
        LinearCodes own = Checks.withCode(4, 3, 12);
        due("dualize(0) of 3, 12", own.dualize(0), 2);
        dueWords("dualize(0) of 3, 12", own, 0, "0 3 12 15");
        LinearCodes one = Checks.withCode(4, 1, 6);
        due("dualize(0) of 1, 6", one.dualize(0), 2);
        dueWords("dualize(0) of 1, 6", one, 0, "0 6 8 14");

        due("dualize(0) of Hamming", Checks.withCode(7, HAMMING).dualize(0), 3);
        due("dualize(0) of 1023", Checks.withCode(10, 1023).dualize(0), 9);
        for (int bad : Checks.BAD_CODES) {
            due("dualize(" + bad + ")", x.dualize(bad), BAD_ARG);
        }
    }

    private static void promise5Shorten() {
        LinearCodes x = Checks.withCode(4, 3, 5, 8);
        Checks.addAll(x, 1, 15);
        due("shorten(0, 0)", x.shorten(0, 0), 2);
        dueWords("shorten(0, 0)", x, 0, "0 6 8 14");
        due("shorten(0, 0) again", x.shorten(0, 0), 2);
        due("shorten(0, 3)", x.shorten(0, 3), 1);
        dueWords("shorten(0, 3)", x, 0, "0 6");
        dueWords("shorten of code 0", x, 1, "0 15");
        due("shorten(1, 2)", x.shorten(1, 2), 0);
        dueWords("shorten(1, 2)", x, 1, "0");
        dueWords("shorten of code 1", x, 0, "0 6");
        due("shorten(1, 2) of 0", x.shorten(1, 2), 0);
        Checks.addAll(x, 1, 1, 12);
        due("shorten(1, 0) of 1, 12", x.shorten(1, 0), 1);
        dueWords("shorten(1, 0) of 1, 12", x, 1, "0 12");

        LinearCodes all = new LinearCodes(10);
        all.dualize(0);
        due("shorten(0, 9) of all", all.shorten(0, 9), 9);
        due("has(0, 511) then", all.has(0, 511), 1);
        due("has(0, 512) then", all.has(0, 512), 0);
        dueBadPlacesAndCodes("shorten");
    }

    private static void promise6Puncture() {
        LinearCodes x = Checks.withCode(4, 3, 5, 8);
        Checks.addAll(x, 1, 1);
        due("puncture(0, 0)", x.puncture(0, 0), 3);
        dueWords("puncture(0, 0)", x, 0, "0 2 4 6 8 10 12 14");
        due("puncture(0, 0) again", x.puncture(0, 0), 3);
        due("puncture(0, 3)", x.puncture(0, 3), 2);
        dueWords("puncture(0, 3)", x, 0, "0 2 4 6");
        dueWords("puncture of code 0", x, 1, "0 1");
        due("puncture(1, 0)", x.puncture(1, 0), 0);
        dueWords("puncture(1, 0)", x, 1, "0");
        dueWords("puncture of code 1", x, 0, "0 2 4 6");

        // The words stay apart, so the dimension stays, and the length stays in any case.
        LinearCodes apart = Checks.withCode(4, 15);
        due("puncture(0, 2) of 15", apart.puncture(0, 2), 1);
        dueWords("puncture(0, 2) of 15", apart, 0, "0 11");
        due("length() after puncture", apart.length(), 4);

        LinearCodes all = new LinearCodes(10);
        all.dualize(0);
        due("puncture(0, 9) of all", all.puncture(0, 9), 9);
        due("has(0, 511) then", all.has(0, 511), 1);
        due("has(0, 512) then", all.has(0, 512), 0);
        dueBadPlacesAndCodes("puncture");
    }

    private static void dueBadPlacesAndCodes(String method) {
        LinearCodes x = Checks.withCode(5, 31, 3);
        boolean shortens = method.equals("shorten");
        for (int bad : Checks.BAD_CODES) {
            due(method + "(" + bad + ", 0)", shortens ? x.shorten(bad, 0) : x.puncture(bad, 0), BAD_ARG);
        }
        for (int bad : Checks.badPlaces(5)) {
            due(method + "(0, " + bad + ")", shortens ? x.shorten(0, bad) : x.puncture(0, bad), BAD_ARG);
        }
        dueWords("refused " + method, x, 0, "0 3 28 31");
    }

    private static void promise7Exchange() {
        LinearCodes x = Checks.withCode(4, 1, 6);
        Checks.addAll(x, 1, 2);
        due("exchange(0, 0, 3)", x.exchange(0, 0, 3), 2);
        dueWords("exchange(0, 0, 3)", x, 0, "0 6 8 14");
        dueWords("exchange of code 0", x, 1, "0 2");
        due("exchange(0, 1, 2)", x.exchange(0, 1, 2), 2);
        dueWords("exchange(0, 1, 2)", x, 0, "0 6 8 14");
        due("exchange(0, 2, 3)", x.exchange(0, 2, 3), 2);
        dueWords("exchange(0, 2, 3)", x, 0, "0 4 10 14");
        due("exchange(0, 2, 2)", x.exchange(0, 2, 2), 2);
        dueWords("exchange(0, 2, 2)", x, 0, "0 4 10 14");
        due("exchange(0, 3, 2)", x.exchange(0, 3, 2), 2);
        dueWords("exchange(0, 3, 2)", x, 0, "0 6 8 14");
        due("exchange(1, 1, 0)", x.exchange(1, 1, 0), 1);
        dueWords("exchange(1, 1, 0)", x, 1, "0 1");
        due("exchange(1, 2, 3) of zeros", x.exchange(1, 2, 3), 1);
        dueWords("exchange(1, 2, 3) of zeros", x, 1, "0 1");

        LinearCodes ones = Checks.withCode(4, 15);
        ones.add(1, 1);
        due("exchange(0, 0, 1) of 15", ones.exchange(0, 0, 1), 1);
        dueWords("exchange(0, 0, 1) of 15", ones, 0, "0 15");
        due("exchange(1, 0, 3) of 1", ones.exchange(1, 0, 3), 1);
        dueWords("exchange(1, 0, 3) of 1", ones, 1, "0 8");

        LinearCodes long10 = Checks.withCode(10, 1);
        due("exchange(0, 0, 9)", long10.exchange(0, 0, 9), 1);
        due("has(0, 512) then", long10.has(0, 512), 1);
        due("exchange(1, 0, 9) of 0", long10.exchange(1, 0, 9), 0);

        for (int bad : Checks.BAD_CODES) {
            due("exchange(" + bad + ", 0, 1)", x.exchange(bad, 0, 1), BAD_ARG);
        }
        for (int bad : Checks.badPlaces(4)) {
            due("exchange(0, " + bad + ", 1)", x.exchange(0, bad, 1), BAD_ARG);
            due("exchange(0, 1, " + bad + ")", x.exchange(0, 1, bad), BAD_ARG);
            due("exchange(0, " + bad + ", the same)", x.exchange(0, bad, bad), BAD_ARG);
        }
        dueWords("refused exchange", x, 0, "0 6 8 14");
    }

    private static void promise8Meet() {
        LinearCodes x = Checks.withCode(4, 3, 5, 8);
        Checks.addAll(x, 1, 6, 9, 12);
        due("meet()", x.meet(), 2);
        dueWords("meet()", x, 0, "0 3 5 6");
        dueWords("meet()", x, 1, "0 3 5 6 9 10 12 15");
        due("meet() again", x.meet(), 2);
        x.clear(1);
        due("meet() with 0", x.meet(), 0);
        dueWords("meet() with 0", x, 0, "0");
        x.dualize(0);
        Checks.addAll(x, 1, 7);
        due("meet() of all with 7", x.meet(), 1);
        dueWords("meet() of all with 7", x, 0, "0 7");
        dueWords("meet() of all with 7", x, 1, "0 7");

        LinearCodes long10 = Checks.withCode(10, 1023, 1, 2);
        Checks.addAll(long10, 1, 1022, 4);
        due("meet() of 1023, 1, 2 with 1022, 4", long10.meet(), 1);
        due("has(0, 1022) then", long10.has(0, 1022), 1);
        due("has(0, 1023) then", long10.has(0, 1023), 0);
    }

    private static void promise9Length() {
        LinearCodes x = Checks.withCode(6, 63, 1);
        due("length()", x.length(), 6);
        x.shorten(0, 5);
        x.puncture(0, 0);
        x.dualize(1);
        due("length() after changes", x.length(), 6);
    }

    private static void promise10Dimension() {
        LinearCodes x = Checks.withCode(10, 1, 2, 3, 512, 515);
        due("dimension(0)", x.dimension(0), 3);
        due("dimension(1)", x.dimension(1), 0);
        x.dualize(1);
        due("dimension(1) of all", x.dimension(1), 10);
        due("dimension(0) still", x.dimension(0), 3);
        for (int bad : Checks.BAD_CODES) {
            due("dimension(" + bad + ")", x.dimension(bad), BAD_ARG);
        }
    }

    private static void promise11Has() {
        LinearCodes x = Checks.withCode(5, 7, 25);
        x.add(1, 16);
        due("has(0, 0)", x.has(0, 0), 1);
        due("has(0, 7)", x.has(0, 7), 1);
        due("has(0, 25)", x.has(0, 25), 1);
        due("has(0, 30)", x.has(0, 30), 1);
        due("has(0, 16)", x.has(0, 16), 0);
        due("has(0, 31)", x.has(0, 31), 0);
        due("has(1, 16)", x.has(1, 16), 1);
        due("has(1, 7)", x.has(1, 7), 0);
        for (int bad : Checks.BAD_CODES) {
            due("has(" + bad + ", 0)", x.has(bad, 0), BAD_ARG);
        }
        for (int bad : Checks.badWords(5)) {
            due("has(0, " + bad + ")", x.has(0, bad), BAD_ARG);
            due("has(1, " + bad + ")", x.has(1, bad), BAD_ARG);
        }
    }

    private static void promise12WordAt() {
        LinearCodes x = Checks.withCode(5, 25, 7);
        int[] words = {0, 7, 25, 30};
        for (int i = 0; i < 4; i++) {
            due("wordAt(0, " + i + ")", x.wordAt(0, i), words[i]);
        }
        due("wordAt(0, 4)", x.wordAt(0, 4), NONE);
        due("wordAt(1, 0)", x.wordAt(1, 0), 0);
        due("wordAt(1, 1)", x.wordAt(1, 1), NONE);
        for (int far : Checks.FAR_NUMBERS) {
            due("wordAt(0, " + far + ")", x.wordAt(0, far), NONE);
        }
        LinearCodes all = new LinearCodes(10);
        all.dualize(1);
        due("wordAt(1, 1023) of all", all.wordAt(1, 1023), 1023);
        due("wordAt(1, 1024) of all", all.wordAt(1, 1024), NONE);
        for (int bad : Checks.BAD_CODES) {
            due("wordAt(" + bad + ", 0)", x.wordAt(bad, 0), BAD_ARG);
        }
    }

    private static void promise13Weights() {
        LinearCodes x = Checks.withCode(7, HAMMING);
        int[] hamming = {1, 0, 0, 7, 7, 0, 0, 1};
        int[] all = {1, 7, 21, 35, 35, 21, 7, 1};
        for (int w = 0; w <= 7; w++) {
            due("weights(0, " + w + ") of Hamming", x.weights(0, w), hamming[w]);
            due("weights(1, " + w + ") of 0", x.weights(1, w), w == 0 ? 1 : 0);
        }
        x.dualize(1);
        for (int w = 0; w <= 7; w++) {
            due("weights(1, " + w + ") of all", x.weights(1, w), all[w]);
        }
        due("weights(1, 8) of all", x.weights(1, 8), 0);
        for (int far : Checks.FAR_NUMBERS) {
            due("weights(1, " + far + ")", x.weights(1, far), 0);
        }
        LinearCodes long10 = Checks.withCode(10, 1023);
        due("weights(0, 10) of 1023", long10.weights(0, 10), 1);
        due("weights(0, 9) of 1023", long10.weights(0, 9), 0);
        due("weights(0, 0) of 1023", long10.weights(0, 0), 1);
        for (int bad : Checks.BAD_CODES) {
            due("weights(" + bad + ", 0)", x.weights(bad, 0), BAD_ARG);
        }
    }

    private static void promise14DualWeights() {
        LinearCodes x = Checks.withCode(7, HAMMING);
        int[] simplex = {1, 0, 0, 0, 7, 0, 0, 0};
        int[] all = {1, 7, 21, 35, 35, 21, 7, 1};
        for (int w = 0; w <= 7; w++) {
            due("dualWeights(0, " + w + ") of Hamming", x.dualWeights(0, w), simplex[w]);
            due("dualWeights(1, " + w + ") of 0", x.dualWeights(1, w), all[w]);
        }
        due("weights(0, 3), code 0 is as it was", x.weights(0, 3), 7);
        due("dimension(1), code 1 is as it was", x.dimension(1), 0);
        due("dualWeights(1, 8)", x.dualWeights(1, 8), 0);
        for (int far : Checks.FAR_NUMBERS) {
            due("dualWeights(1, " + far + ")", x.dualWeights(1, far), 0);
        }
        x.dualize(1);
        due("dualWeights(1, 0) of all", x.dualWeights(1, 0), 1);
        due("dualWeights(1, 4) of all", x.dualWeights(1, 4), 0);
        for (int bad : Checks.BAD_CODES) {
            due("dualWeights(" + bad + ", 0)", x.dualWeights(bad, 0), BAD_ARG);
        }
    }

    private static void promise15LeastWeight() {
        LinearCodes x = Checks.withCode(7, HAMMING);
        due("leastWeight(0) of Hamming", x.leastWeight(0), 3);
        due("leastWeight(1) of 0", x.leastWeight(1), NONE);
        x.dualize(0);
        due("leastWeight(0) of the dual", x.leastWeight(0), 4);
        x.add(1, 127);
        due("leastWeight(1) of 127", x.leastWeight(1), 7);
        x.add(1, 95);
        due("leastWeight(1) of 127, 95", x.leastWeight(1), 1);
        // The least weight is that of the greatest word, then that of the least one.
        due("leastWeight(0) of 15, 23", Checks.withCode(5, 15, 23).leastWeight(0), 2);
        due("leastWeight(0) of 3, 60", Checks.withCode(6, 3, 60).leastWeight(0), 2);
        due("leastWeight(0) of 1023", Checks.withCode(10, 1023).leastWeight(0), 10);
        due("leastWeight(0) of 512", Checks.withCode(10, 512).leastWeight(0), 1);
        due("leastWeight(0) of 1", Checks.withCode(2, 1).leastWeight(0), 1);
        x.clear(1);
        due("leastWeight(1) after clear", x.leastWeight(1), NONE);
        for (int bad : Checks.BAD_CODES) {
            due("leastWeight(" + bad + ")", x.leastWeight(bad), BAD_ARG);
        }
    }

    private static void promise16Nearest() {
        LinearCodes x = Checks.withCode(6, 7, 56);
        x.add(1, 63);
        due("nearest(0, 0)", x.nearest(0, 0), 0);
        due("nearest(0, 1)", x.nearest(0, 1), 0);
        due("nearest(0, 3)", x.nearest(0, 3), 7);
        due("nearest(0, 7)", x.nearest(0, 7), 7);
        due("nearest(0, 41)", x.nearest(0, 41), 56);
        due("nearest(0, 62)", x.nearest(0, 62), 63);
        due("nearest(1, 41), three from 0 and from 63", x.nearest(1, 41), 0);
        due("nearest(1, 43)", x.nearest(1, 43), 63);
        due("nearest(1, 3)", x.nearest(1, 3), 0);

        // Of several nearest ones the least, though it is not 0 and not the first that was added.
        LinearCodes ties = Checks.withCode(4, 12, 3);
        due("nearest(0, 7), one from 3 and from 15", ties.nearest(0, 7), 3);
        due("nearest(0, 13), one from 12 and from 15", ties.nearest(0, 13), 12);
        due("nearest(0, 5), two from each", ties.nearest(0, 5), 0);
        due("nearest(0, 3) of 1", Checks.withCode(2, 1).nearest(0, 3), 1);

        LinearCodes long10 = Checks.withCode(10, 1023);
        due("nearest(0, 1023)", long10.nearest(0, 1023), 1023);
        due("nearest(0, 31), five from both", long10.nearest(0, 31), 0);
        due("nearest(0, 992), five from both", long10.nearest(0, 992), 0);
        due("nearest(0, 993)", long10.nearest(0, 993), 1023);
        due("nearest(1, 1023) of 0", long10.nearest(1, 1023), 0);
        for (int bad : Checks.BAD_CODES) {
            due("nearest(" + bad + ", 0)", x.nearest(bad, 0), BAD_ARG);
        }
        for (int bad : Checks.badWords(6)) {
            due("nearest(0, " + bad + ")", x.nearest(0, bad), BAD_ARG);
        }
    }

    private static void promise17Cosets() {
        LinearCodes x = Checks.withCode(7, HAMMING);
        int[] hamming = {1, 7, 0, 0, 0, 0, 0, 0};
        int[] simplex = {1, 7, 7, 1, 0, 0, 0, 0};
        int[] zero = {1, 7, 21, 35, 35, 21, 7, 1};
        for (int d = 0; d <= 7; d++) {
            due("cosets(0, " + d + ") of Hamming", x.cosets(0, d), hamming[d]);
            due("cosets(1, " + d + ") of 0", x.cosets(1, d), zero[d]);
        }
        x.dualize(0);
        x.dualize(1);
        for (int d = 0; d <= 7; d++) {
            due("cosets(0, " + d + ") of the dual", x.cosets(0, d), simplex[d]);
            due("cosets(1, " + d + ") of all", x.cosets(1, d), d == 0 ? 1 : 0);
        }
        // The sums of 0 and 1111111111 with a word of weight d have weights d and 10 - d.
        LinearCodes long10 = Checks.withCode(10, 1023);
        int[] repeated = {1, 10, 45, 120, 210, 126, 0, 0, 0, 0, 0};
        for (int d = 0; d <= 10; d++) {
            due("cosets(0, " + d + ") of 1023", long10.cosets(0, d), repeated[d]);
        }
        due("cosets(1, 10) of 0", long10.cosets(1, 10), 1);
        due("cosets(1, 11) of 0", long10.cosets(1, 11), 0);
        for (int far : Checks.FAR_NUMBERS) {
            due("cosets(1, " + far + ")", long10.cosets(1, far), 0);
        }
        for (int bad : Checks.BAD_CODES) {
            due("cosets(" + bad + ", 0)", x.cosets(bad, 0), BAD_ARG);
        }
    }

    private static void promise18Radius() {
        LinearCodes x = Checks.withCode(7, HAMMING);
        due("radius(0) of Hamming", x.radius(0), 1);
        due("radius(1) of 0", x.radius(1), 7);
        x.dualize(0);
        due("radius(0) of the dual", x.radius(0), 3);
        x.dualize(1);
        due("radius(1) of all", x.radius(1), 0);
        due("radius(0) beside all", x.radius(0), 3);
        due("radius(0) of 1023", Checks.withCode(10, 1023).radius(0), 5);
        due("radius(1) of 0", new LinearCodes(10).radius(1), 10);
        due("radius(0) of 511", Checks.withCode(9, 511).radius(0), 4);
        due("radius(0) of 1", Checks.withCode(5, 1).radius(0), 4);
        due("radius(0) of 3, 12", Checks.withCode(4, 3, 12).radius(0), 2);
        for (int bad : Checks.BAD_CODES) {
            due("radius(" + bad + ")", x.radius(bad), BAD_ARG);
        }
    }

    private static void promise19IsInformation() {
        // The words 0, 3, 13, 14: places 2 and 3 are always the same.
        LinearCodes x = Checks.withCode(4, 3, 13);
        int[] sets = {3, 5, 6, 9, 10};
        for (int set = 0; set < 16; set++) {
            int want = 0;
            for (int s : sets) {
                want = s == set ? 1 : want;
            }
            due("isInformation(0, " + set + ")", x.isInformation(0, set), want);
            due("isInformation(1, " + set + ") of 0", x.isInformation(1, set), set == 0 ? 1 : 0);
        }
        x.dualize(1);
        for (int set = 0; set < 16; set++) {
            due("isInformation(1, " + set + ") of all", x.isInformation(1, set), set == 15 ? 1 : 0);
        }
        LinearCodes long10 = Checks.withCode(10, 512 + 1);
        due("isInformation(0, 512)", long10.isInformation(0, 512), 1);
        due("isInformation(0, 1)", long10.isInformation(0, 1), 1);
        due("isInformation(0, 2)", long10.isInformation(0, 2), 0);
        due("isInformation(0, 513)", long10.isInformation(0, 513), 0);
        due("isInformation(0, 0)", long10.isInformation(0, 0), 0);
        due("isInformation(0, 1) of 1", Checks.withCode(10, 1).isInformation(0, 1), 1);
        due("isInformation(0, 2) of 1", Checks.withCode(10, 1).isInformation(0, 2), 0);
        for (int bad : Checks.BAD_CODES) {
            due("isInformation(" + bad + ", 0)", x.isInformation(bad, 0), BAD_ARG);
        }
        for (int bad : Checks.badWords(4)) {
            due("isInformation(0, " + bad + ")", x.isInformation(0, bad), BAD_ARG);
        }
    }

    private static void promise20InformationSets() {
        due("informationSets(0) of 3, 13", Checks.withCode(4, 3, 13).informationSets(0), 5);
        LinearCodes x = Checks.withCode(7, HAMMING);
        due("informationSets(0) of Hamming", x.informationSets(0), 28);
        due("informationSets(1) of 0", x.informationSets(1), 1);
        x.dualize(0);
        due("informationSets(0) of the dual", x.informationSets(0), 28);
        x.dualize(1);
        due("informationSets(1) of all", x.informationSets(1), 1);
        due("informationSets(0) of 0 in 10 places", new LinearCodes(10).informationSets(0), 1);
        LinearCodes even = Checks.withCode(10, 1023);
        due("informationSets(0) of 1023", even.informationSets(0), 10);
        even.dualize(0);
        due("informationSets(0) of even words", even.informationSets(0), 10);
        due("informationSets(0) of 3, 12, 48, 192, 768",
                Checks.withCode(10, 3, 12, 48, 192, 768).informationSets(0), 32);
        for (int bad : Checks.BAD_CODES) {
            due("informationSets(" + bad + ")", x.informationSets(bad), BAD_ARG);
        }
    }

    private static void promise21Orthogonal() {
        LinearCodes x = new LinearCodes(10);
        due("orthogonal() of 0 and 0", x.orthogonal(), 1);
        x.dualize(0);
        due("orthogonal() of all and 0", x.orthogonal(), 1);
        x.add(1, 512);
        due("orthogonal() of all and 512", x.orthogonal(), 0);
        x.shorten(0, 9);
        due("orthogonal() of places 0 to 8 and 512", x.orthogonal(), 1);

        LinearCodes greatest = Checks.withCode(10, 1023);
        greatest.add(1, 1);
        due("orthogonal() of 1023 and 1", greatest.orthogonal(), 0);
        LinearCodes least = Checks.withCode(10, 1);
        least.add(1, 1023);
        due("orthogonal() of 1 and 1023", least.orthogonal(), 0);

        LinearCodes words = Checks.withCode(4, 3);
        words.add(1, 3);
        due("orthogonal() of 3 and 3", words.orthogonal(), 1);
        words.add(1, 12);
        due("orthogonal() of 3 and 3, 12", words.orthogonal(), 1);
        words.add(0, 5);
        due("orthogonal() of 3, 5 and 3, 12", words.orthogonal(), 0);
        words.clear(1);
        words.add(1, 7);
        due("orthogonal() of 3, 5 and 7", words.orthogonal(), 1);
        words.add(0, 15);
        due("orthogonal() of 3, 5, 15 and 7", words.orthogonal(), 0);
        Checks.due("both codes after orthogonal()", Checks.bothCodes(words), "0 3 5 6 9 10 12 15 | 0 7");
    }

    /** Also where the call is an object's first one. */
    private static void everyCodeHasTheWord0() {
        for (int c = 0; c <= 1; c++) {
            LinearCodes[] x = new LinearCodes[5];
            for (int i = 0; i < x.length; i++) {
                x[i] = new LinearCodes(10);
            }
            due("first shorten", x[0].shorten(c, 0), 0);
            due("first puncture", x[1].puncture(c, 0), 0);
            due("first exchange", x[2].exchange(c, 0, 1), 0);
            due("first meet", x[3].meet(), 0);
            due("first clear", x[4].clear(c), 0);
            for (LinearCodes each : x) {
                due("has(" + c + ", 0) after a first call", each.has(c, 0), 1);
                due("wordAt(" + c + ", 1) after a first call", each.wordAt(c, 1), NONE);
            }
        }
    }

    /** A bad code answers BAD_ARG even where another argument alone would answer 0 or NONE. */
    private static void codeIsTestedBeforeOtherArguments() {
        LinearCodes x = new LinearCodes(3);
        due("wordAt(2, -1)", x.wordAt(2, -1), BAD_ARG);
        due("weights(2, -1)", x.weights(2, -1), BAD_ARG);
        due("dualWeights(-1, 4)", x.dualWeights(-1, 4), BAD_ARG);
        due("cosets(2, 4)", x.cosets(2, 4), BAD_ARG);
        due("leastWeight(-1)", x.leastWeight(-1), BAD_ARG);
        due("add(2, 8)", x.add(2, 8), BAD_ARG);
        due("exchange(2, 3, 3)", x.exchange(2, 3, 3), BAD_ARG);
    }

    private static void refusedCallsChangeNothing() {
        LinearCodes x = Checks.withCode(4, 3, 5);
        Checks.addAll(x, 1, 9);
        for (int bad : Checks.BAD_CODES) {
            x.add(bad, 15);
            x.clear(bad);
            x.dualize(bad);
            x.shorten(bad, 0);
            x.puncture(bad, 0);
            x.exchange(bad, 0, 3);
        }
        for (int bad : Checks.badWords(4)) {
            x.add(0, bad);
            x.add(1, bad);
        }
        for (int bad : Checks.badPlaces(4)) {
            x.shorten(0, bad);
            x.puncture(0, bad);
            x.exchange(0, bad, 3);
            x.exchange(1, 3, bad);
        }
        Checks.due("both codes after refused calls", Checks.bothCodes(x), "0 3 5 6 | 0 9");
        due("length() after refused calls", x.length(), 4);
    }
}
