import java.util.ArrayList;
import java.util.Arrays;
import java.util.List;
import java.util.function.IntFunction;

/**
 * A method of the face with what its arguments are, so that a sentence about every call is tested on every one.
 * The kinds, a letter each: c a code, w a word, p a place, i any number.
 */
record Call(String name, String kinds, Body body) {
    interface Body {
        int answer(LinearCodes x, int[] a);
    }

    static final List<Call> CHANGES = List.of(
            new Call("add", "cw", (x, a) -> x.add(a[0], a[1])),
            new Call("clear", "c", (x, a) -> x.clear(a[0])),
            new Call("dualize", "c", (x, a) -> x.dualize(a[0])),
            new Call("shorten", "cp", (x, a) -> x.shorten(a[0], a[1])),
            new Call("puncture", "cp", (x, a) -> x.puncture(a[0], a[1])),
            new Call("exchange", "cpp", (x, a) -> x.exchange(a[0], a[1], a[2])),
            new Call("meet", "", (x, a) -> x.meet()));

    static final List<Call> QUESTIONS = List.of(
            new Call("length", "", (x, a) -> x.length()),
            new Call("dimension", "c", (x, a) -> x.dimension(a[0])),
            new Call("has", "cw", (x, a) -> x.has(a[0], a[1])),
            new Call("wordAt", "ci", (x, a) -> x.wordAt(a[0], a[1])),
            new Call("weights", "ci", (x, a) -> x.weights(a[0], a[1])),
            new Call("dualWeights", "ci", (x, a) -> x.dualWeights(a[0], a[1])),
            new Call("leastWeight", "c", (x, a) -> x.leastWeight(a[0])),
            new Call("nearest", "cw", (x, a) -> x.nearest(a[0], a[1])),
            new Call("cosets", "ci", (x, a) -> x.cosets(a[0], a[1])),
            new Call("radius", "c", (x, a) -> x.radius(a[0])),
            new Call("isInformation", "cw", (x, a) -> x.isInformation(a[0], a[1])),
            new Call("informationSets", "c", (x, a) -> x.informationSets(a[0])),
            new Call("orthogonal", "", (x, a) -> x.orthogonal()));

    static final List<Call> ALL = List.of(CHANGES, QUESTIONS).stream().flatMap(List::stream).toList();

    int of(LinearCodes x, int... arguments) {
        return body.answer(x, arguments);
    }

    /** All lists of arguments that can be made of the choices for each kind. */
    List<int[]> argumentsOf(IntFunction<int[]> choicesOfKind) {
        List<int[]> lists = List.of(new int[0]);
        for (char kind : kinds.toCharArray()) {
            List<int[]> longer = new ArrayList<>();
            for (int[] list : lists) {
                for (int choice : choicesOfKind.apply(kind)) {
                    int[] next = Arrays.copyOf(list, list.length + 1);
                    next[list.length] = choice;
                    longer.add(next);
                }
            }
            lists = longer;
        }
        return lists;
    }

    String with(int... arguments) {
        String list = Arrays.toString(arguments);
        return name + "(" + list.substring(1, list.length() - 1) + ")";
    }
}
