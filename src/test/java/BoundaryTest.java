import java.util.ArrayList;
import java.util.Arrays;
import java.util.List;
import java.util.function.Consumer;
import java.util.function.Supplier;
import java.util.function.ToIntFunction;

/** Each sentence of the document that names a boundary case, with a test of its own. */
public final class BoundaryTest {
    private static final int MIN = Integer.MIN_VALUE;
    private static final int MAX = Integer.MAX_VALUE;
    private static final int[] BAD_VALUES = {-1, 256, 257, -255, -256, 511, 512, MIN, MAX};
    private static final int[] BAD_NUMBERS = {-1, 10000, 10001, -9999, 65536, MIN, MAX};

    private static int wrong = 0;
    private static String sentence = "";

    private static void due(String call, Object got, Object want) {
        if (!got.equals(want)) {
            wrong++;
            System.out.println("'" + sentence + "': " + call + " answered " + got + ", due is " + want);
        }
    }

    private static void test(String words, Runnable body) {
        sentence = words;
        body.run();
    }

    /** Pairs of a set and a value. */
    private static FountainDecoder with(int blocks, int... pairs) {
        FountainDecoder x = new FountainDecoder(blocks);
        for (int i = 0; i < pairs.length; i += 2) {
            due("receive(" + pairs[i] + ", " + pairs[i + 1] + ")", x.receive(pairs[i], pairs[i + 1]), i / 2);
        }
        return x;
    }

    private static FountainDecoder withSets(int blocks, int... sets) {
        int[] pairs = new int[2 * sets.length];
        for (int i = 0; i < sets.length; i++) {
            pairs[2 * i] = sets[i];
            pairs[2 * i + 1] = i * 37 % 256;
        }
        return with(blocks, pairs);
    }

    private static FountainDecoder fill(FountainDecoder x, int set, int value) {
        for (int i = x.symbols(); i < 16; i++) {
            due("receive(" + set + ", " + value + ")", x.receive(set, value), i);
        }
        return x;
    }

    private static FountainDecoder allKnown(int blocks) {
        int[] singles = new int[blocks];
        for (int b = 0; b < blocks; b++) {
            singles[b] = 1 << b;
        }
        return withSets(blocks, singles);
    }

    private static FountainDecoder contradicting(int blocks) {
        return with(blocks, 1, 5, 1, 6);
    }

    /**
     * The symbols of the object that is made, in their order, as "set=value": each
     * is read from an object of its own, where all the others have been lost.
     */
    private static List<String> listOf(Supplier<FountainDecoder> maker) {
        List<String> list = new ArrayList<>();
        int count = maker.get().symbols();
        for (int i = 0; i < count; i++) {
            FountainDecoder x = maker.get();
            for (int k = 0; k < i; k++) {
                x.lose(0);
            }
            for (int k = i + 1; k < count; k++) {
                x.lose(1);
            }
            list.add(onlySymbol(x));
        }
        return list;
    }

    private static String onlySymbol(FountainDecoder x) {
        String text = "";
        for (int set = 1; set < 1 << x.blocks(); set++) {
            int sum = x.sumOf(set);
            if (sum >= 0) {
                text += set + "=" + sum;
            }
        }
        return text;
    }

    private static List<Supplier<FountainDecoder>> states() {
        return Arrays.asList(
                () -> new FountainDecoder(1),
                () -> new FountainDecoder(8),
                () -> with(1, 1, 255),
                () -> with(4, 3, 9, 6, 5, 8, 1),
                () -> with(4, 3, 9, 6, 5, 5, 13, 8, 1),
                () -> allKnown(8),
                () -> fill(with(3, 1, 7, 2, 8, 6, 9), 7, 6),
                () -> fill(with(8, 1, 7, 1, 8, 129, 9), 255, 6));
    }

    // The whole document

    private static void callsUpToTheLast() {
        FountainDecoder x = new FountainDecoder(8);
        for (int i = 0; i < 170; i++) {
            due("receive, call " + (3 * i + 1), x.receive(1, i), 0);
            due("value(0), call " + (3 * i + 2), x.value(0), i);
            due("lose(0), call " + (3 * i + 3), x.lose(0), 0);
        }
        due("receive(255, 255), call 511", x.receive(255, 255), 0);
        due("sumOf(255), call 512", x.sumOf(255), 255);

        FountainDecoder y = new FountainDecoder(8);
        for (int i = 0; i < 511; i++) {
            due("receive(128, 1), call " + (i + 1), y.receive(128, 1), i < 16 ? i : -3);
        }
        due("symbols(), call 512", y.symbols(), 16);
    }

    // Terms

    private static void firstAndLastBlock() {
        for (int n = 1; n <= 8; n++) {
            for (int value : new int[] {0, 1, 127, 128, 255}) {
                int last = 1 << (n - 1);
                due("value(n-1), n = " + n, with(n, last, value).value(n - 1), value);
                due("value(0), n = " + n, with(n, 1, value).value(0), value);
                due("known(), n = " + n, with(n, last, value).known(), last);
            }
        }
    }

    private static void numbersOfSums() {
        FountainDecoder x = with(8, 1, 255, 128, 255, 2, 0, 64, 170);
        due("sumOf(129)", x.sumOf(129), 0);
        due("sumOf(3)", x.sumOf(3), 255);
        due("sumOf(65)", x.sumOf(65), 85);
        due("sumOf(195)", x.sumOf(195), 170);
    }

    private static void atMostSixteen() {
        for (int n : new int[] {1, 8}) {
            FountainDecoder x = new FountainDecoder(n);
            for (int i = 0; i < 16; i++) {
                due("receive(1, 2), n = " + n, x.receive(1, 2), i);
            }
            due("receive(1, 2) as the 17th", x.receive(1, 2), -3);
            due("draw(0, 2) as the 17th", x.draw(0, 2), -3);
            due("symbols()", x.symbols(), 16);
        }
    }

    private static void inTheirOrder() {
        due("the list", listOf(() -> with(4, 8, 1, 3, 255, 3, 0, 15, 7)), Arrays.asList("8=1", "3=255", "3=0", "15=7"));
        due("the list, drawn", listOf(() -> {
            FountainDecoder x = with(8, 255, 1);
            x.draw(3, 200);
            x.receive(1, 0);
            x.draw(0, 255);
            return x;
        }), Arrays.asList("255=1", "80=200", "1=0", "2=255"));
    }

    private static void solutionsForNoSymbols() {
        for (int n = 1; n <= 8; n++) {
            FountainDecoder x = new FountainDecoder(n);
            due("consistent(), n = " + n, x.consistent(), 1);
            due("known(), n = " + n, x.known(), 0);
            due("sumOf(0), n = " + n, x.sumOf(0), 0);
        }
    }

    private static void contradictionInOneBit() {
        for (int bit = 0; bit < 8; bit++) {
            due("bit " + bit, with(8, 255, 90, 255, 90 ^ (1 << bit)).consistent(), 0);
        }
        for (int b = 0; b < 8; b++) {
            due("block " + b, with(8, 1 << b, 0, 1 << b, 1).consistent(), 0);
        }
        due("the 15th and the 16th symbol", with(8, 1, 0, 2, 0, 4, 0, 8, 0, 16, 0, 32, 0, 64, 0,
                3, 0, 6, 0, 12, 0, 24, 0, 48, 0, 96, 0, 1, 0, 128, 1, 128, 2).consistent(), 0);
        due("all eight of a ring together", with(8, 3, 1, 6, 1, 12, 1, 24, 1, 48, 1, 96, 1, 192, 1, 129, 0).consistent(), 0);
        due("seven of them", with(8, 3, 1, 6, 1, 12, 1, 24, 1, 48, 1, 96, 1, 192, 1).consistent(), 1);
    }

    private static void nothingKnownWithoutASolution() {
        FountainDecoder x = with(8, 1, 1, 128, 7, 2, 3, 2, 4);
        due("known()", x.known(), 0);
        for (int block = 0; block < 8; block++) {
            due("value(" + block + ")", x.value(block), -2);
        }
        due("lose(2)", x.lose(2), 3);
        due("known() with a solution again", x.known(), 131);
    }

    private static void justOneBlockLeft() {
        due("two blocks left", withSets(3, 3).peeled(), 0);
        due("two of three left", withSets(3, 1, 7).peeled(), 1);
        due("one of three left", withSets(3, 1, 2, 7).peeled(), 7);
        due("no block left", withSets(3, 1, 1, 2, 3).peeled(), 3);
        due("eight blocks, one left", withSets(8, 255, 1, 2, 4, 8, 16, 32, 64).peeled(), 255);
        due("eight blocks, two left", withSets(8, 255, 1, 2, 4, 8, 16, 32).peeled(), 63);
        due("two symbols of the same two blocks", withSets(2, 3, 3).peeled(), 0);
    }

    private static void anyOrderOfPeeling() {
        int[] sets = {1, 3, 6, 28, 8};
        for (int code = 0; code < 120; code++) {
            int[] order = permutation(sets, code);
            due("peeled() of " + Arrays.toString(order), withSets(6, order).peeled(), 31);
            due("seed() of " + Arrays.toString(order), withSets(6, order).seed(), 32);
        }
    }

    private static int[] permutation(int[] of, int code) {
        List<Integer> left = new ArrayList<>();
        for (int element : of) {
            left.add(element);
        }
        int[] made = new int[of.length];
        int rest = code;
        for (int i = 0; i < made.length; i++) {
            made[i] = left.remove(rest % left.size());
            rest /= made.length - i;
        }
        return made;
    }

    private static void seedsThatAreAllOrNone() {
        for (int n = 1; n <= 8; n++) {
            int all = (1 << n) - 1;
            FountainDecoder x = new FountainDecoder(n);
            due("isSeed(all) without symbols, n = " + n, x.isSeed(all), 1);
            due("isSeed(0) without symbols, n = " + n, x.isSeed(0), 0);
            for (int b = 0; b < n; b++) {
                due("isSeed(all but one) without symbols", x.isSeed(all ^ (1 << b)), 0);
                due("isSeed(all but one) with the whole", with(n, all, 0).isSeed(all ^ (1 << b)), 1);
            }
            due("isSeed(0) with all peeled, n = " + n, allKnown(n).isSeed(0), 1);
            due("isSeed(all) with all peeled, n = " + n, allKnown(n).isSeed(all), 1);
        }
    }

    private static void firstAndLastNumber() {
        int[] first = {1, 2, 4, 2, 16, 32, 4, 2};
        int[] last = {1, 3, 6, 1, 5, 1, 1, 12};
        for (int n = 1; n <= 8; n++) {
            due("setOf(0), n = " + n, new FountainDecoder(n).setOf(0), first[n - 1]);
            due("setOf(9999), n = " + n, new FountainDecoder(n).setOf(9999), last[n - 1]);
            due("draw(0, 0), n = " + n, new FountainDecoder(n).draw(0, 0), first[n - 1]);
            due("draw(9999, 0), n = " + n, new FountainDecoder(n).draw(9999, 0), last[n - 1]);
        }
    }

    private static void theFirstSizeOnes() {
        FountainDecoder x = new FountainDecoder(8);
        due("setOf(0), the first of 1, 3, 4", x.setOf(0), 1 << 1);
        due("setOf(3), two of 6, 4, 7", x.setOf(3), (1 << 6) + (1 << 4));
        due("setOf(6), all of 3, 6, 2", x.setOf(6), (1 << 3) + (1 << 6) + (1 << 2));
        FountainDecoder y = new FountainDecoder(7);
        due("setOf(0), the first of 2, 2, 2", y.setOf(0), 1 << 2);
        due("setOf(4), two of 3, 5, 4", y.setOf(4), (1 << 3) + (1 << 5));
        due("setOf(7), all of 2, 4, 6", y.setOf(7), (1 << 2) + (1 << 4) + (1 << 6));
    }

    private static void onceOrThreeTimes() {
        FountainDecoder x = new FountainDecoder(8);
        due("setOf(8), 1, 2, 2", x.setOf(8), 1 << 1);
        due("setOf(9), 0, 0, 6", x.setOf(9), 1 << 6);
        due("setOf(18), 7, 4, 7", x.setOf(18), 1 << 4);
        due("setOf(165), 4, 4, 4", x.setOf(165), 1 << 4);
        due("setOf(1929), 0, 0, 0", x.setOf(1929), 1);
        FountainDecoder y = new FountainDecoder(2);
        due("setOf(18) of two blocks, 1, 1, 1", y.setOf(18), 1 << 1);
        due("setOf(6) of two blocks, 1, 1, 0", y.setOf(6), 1);
        due("setOf(7) of two blocks, 0, 1, 0", y.setOf(7), 1 << 1);
    }

    private static void noneIsBlockZero() {
        // In each of these two blocks count and are the same one, which is not block 0.
        int[] numbers = {14, 15, 4, 5, 13, 3, 16};
        for (int n = 2; n <= 8; n++) {
            due("setOf(" + numbers[n - 2] + "), n = " + n, new FountainDecoder(n).setOf(numbers[n - 2]), 1);
            FountainDecoder x = new FountainDecoder(n);
            due("draw, n = " + n, x.draw(numbers[n - 2], 77), 1);
            due("value(0), n = " + n, x.value(0), 77);
        }
        due("setOf(265) of eight blocks, 0, 0", new FountainDecoder(8).setOf(265), 1);
        FountainDecoder one = new FountainDecoder(1);
        for (int r = 0; r < 500; r++) {
            due("setOf(" + r + ") of one block", one.setOf(r), 1);
        }
    }

    private static void questionsChangeNothing() {
        for (Supplier<FountainDecoder> state : states()) {
            List<String> before = listOf(state);
            for (ToIntFunction<FountainDecoder> question : questions(state.get().blocks())) {
                due("the list after a question", listOf(() -> {
                    FountainDecoder x = state.get();
                    question.applyAsInt(x);
                    return x;
                }), before);
            }
        }
    }

    private static void questionsAfterQuestions() {
        for (Supplier<FountainDecoder> state : states()) {
            List<ToIntFunction<FountainDecoder>> all = questions(state.get().blocks());
            for (ToIntFunction<FountainDecoder> first : all) {
                FountainDecoder x = state.get();
                first.applyAsInt(x);
                for (int i = 0; i < all.size(); i++) {
                    int alone = all.get(i).applyAsInt(state.get());
                    due("question " + i + " after others", all.get(i).applyAsInt(x), alone);
                }
            }
        }
    }

    private static List<ToIntFunction<FountainDecoder>> questions(int n) {
        return Arrays.asList(
                x -> x.blocks(), x -> x.symbols(), x -> x.setOf(0), x -> x.setOf(9999), x -> x.setOf(10000),
                x -> x.consistent(), x -> x.rank(), x -> x.known(),
                x -> x.value(0), x -> x.value(n - 1), x -> x.value(n),
                x -> x.sumOf(0), x -> x.sumOf((1 << n) - 1), x -> x.sumOf(1 << n),
                x -> x.peeled(), x -> x.isSeed(0), x -> x.isSeed((1 << n) - 1), x -> x.isSeed(-1),
                x -> x.seedSize(), x -> x.seed(), x -> x.spare(), x -> x.useful());
    }

    private static void refusedCallsChangeNothing() {
        for (Supplier<FountainDecoder> state : states()) {
            List<String> before = listOf(state);
            for (Consumer<FountainDecoder> call : refused(state.get())) {
                due("the list after a refused call", listOf(() -> {
                    FountainDecoder x = state.get();
                    call.accept(x);
                    return x;
                }), before);
            }
        }
    }

    private static List<Consumer<FountainDecoder>> refused(FountainDecoder like) {
        int n = like.blocks();
        int count = like.symbols();
        List<Consumer<FountainDecoder>> calls = new ArrayList<>(Arrays.asList(
                x -> due("receive(0, 1)", x.receive(0, 1), -1),
                x -> due("receive(-1, 1)", x.receive(-1, 1), -1),
                x -> due("receive(2^n, 1)", x.receive(1 << n, 1), -1),
                x -> due("receive(1, 256)", x.receive(1, 256), -2),
                x -> due("receive(1, -1)", x.receive(1, -1), -2),
                x -> due("draw(-1, 1)", x.draw(-1, 1), -1),
                x -> due("draw(10000, 1)", x.draw(10000, 1), -1),
                x -> due("draw(1, 256)", x.draw(1, 256), -2),
                x -> due("draw(1, -1)", x.draw(1, -1), -2),
                x -> due("lose(-1)", x.lose(-1), -1),
                x -> due("lose(count)", x.lose(count), -1)));
        if (count == 16) {
            calls.add(x -> due("receive(1, 1) when full", x.receive(1, 1), -3));
            calls.add(x -> due("draw(1, 1) when full", x.draw(1, 1), -3));
        }
        return calls;
    }

    private static void testsInTheOrderNamed() {
        FountainDecoder empty = new FountainDecoder(3);
        FountainDecoder full = fill(new FountainDecoder(3), 7, 1);
        for (FountainDecoder x : Arrays.asList(empty, full)) {
            due("receive, set 0 and value", x.receive(0, 256), -1);
            due("receive, set too great and value", x.receive(8, -1), -1);
            due("receive, set too small and value", x.receive(-1, 256), -1);
            due("draw, r too great and value", x.draw(10000, 256), -1);
            due("draw, r too small and value", x.draw(-1, -1), -1);
        }
        due("receive, set 0 when full", full.receive(0, 0), -1);
        due("receive, set too great when full", full.receive(8, 0), -1);
        due("receive, value when full", full.receive(1, 256), -2);
        due("draw, r when full", full.draw(10000, 0), -1);
        due("draw, value when full", full.draw(0, 256), -2);
        due("receive, only full", full.receive(1, 0), -3);
        due("draw, only full", full.draw(0, 0), -3);
        FountainDecoder broken = contradicting(3);
        due("value, block and no solution", broken.value(3), -1);
        due("sumOf, set and no solution", broken.sumOf(8), -1);
        due("isSeed, set and no solution", broken.isSeed(8), -1);
    }

    private static void goodBlocks() {
        for (int n = 1; n <= 8; n++) {
            FountainDecoder x = allKnown(n);
            for (int block = 0; block < n; block++) {
                due("value(" + block + "), n = " + n, x.value(block), block * 37 % 256);
            }
            // A shift by 32 and more would come round to a good block.
            for (int block : new int[] {-1, n, n + 1, 31, 32, 33, 64, 256, -31, -32, -64, MIN, MAX}) {
                due("value(" + block + "), n = " + n, x.value(block), -1);
            }
        }
    }

    private static void goodSymbols() {
        for (int count = 0; count <= 16; count++) {
            FountainDecoder x = new FountainDecoder(2);
            for (int i = 0; i < count; i++) {
                x.receive(3, i);
            }
            for (int symbol : new int[] {-1, count, count + 1, count + 16, -count - 1, 32, 256, MIN, MAX}) {
                due("lose(" + symbol + ") of " + count, x.lose(symbol), -1);
            }
            if (count > 0) {
                due("lose(last) of " + count, x.lose(count - 1), count - 1);
                due("lose(last) again", x.lose(count - 1), -1);
            }
        }
    }

    private static void goodSets() {
        for (int n = 1; n <= 8; n++) {
            int all = (1 << n) - 1;
            FountainDecoder x = allKnown(n);
            for (int set : new int[] {-1, all + 1, all + 2, 2 * all + 2, 512, 1 << 24, -all - 1, -all, MIN, MIN + 1, MAX}) {
                due("receive(" + set + ", 0), n = " + n, x.receive(set, 0), -1);
                due("sumOf(" + set + "), n = " + n, x.sumOf(set), -1);
                due("isSeed(" + set + "), n = " + n, x.isSeed(set), -1);
            }
            due("symbols(), n = " + n, x.symbols(), n);
            due("receive(1, 0), n = " + n, x.receive(1, 0), n);
            due("receive(all, 0), n = " + n, new FountainDecoder(n).receive(all, 0), 0);
            due("sumOf(all), n = " + n, with(n, all, 201).sumOf(all), 201);
            due("sumOf(0), n = " + n, x.sumOf(0), 0);
            due("isSeed(all), n = " + n, x.isSeed(all), 1);
            due("isSeed(0), n = " + n, x.isSeed(0), 1);
        }
    }

    // Promises 1 to 7

    private static void tooFewBlocks() {
        for (int blocks : new int[] {0, -1, -8, -256, MIN}) {
            FountainDecoder x = new FountainDecoder(blocks);
            due("blocks() of " + blocks, x.blocks(), 1);
            due("receive(1, 0)", x.receive(1, 0), 0);
            due("receive(2, 0)", x.receive(2, 0), -1);
            due("value(1)", x.value(1), -1);
        }
        due("blocks() of 1", new FountainDecoder(1).blocks(), 1);
        due("blocks() of 2", new FountainDecoder(2).blocks(), 2);
    }

    private static void tooManyBlocks() {
        for (int blocks : new int[] {9, 10, 16, 32, 257, MAX}) {
            FountainDecoder x = new FountainDecoder(blocks);
            due("blocks() of " + blocks, x.blocks(), 8);
            due("receive(255, 0)", x.receive(255, 0), 0);
            due("receive(256, 0)", x.receive(256, 0), -1);
            due("value(8)", x.value(8), -1);
        }
        due("blocks() of 8", new FountainDecoder(8).blocks(), 8);
        due("blocks() of 7", new FountainDecoder(7).blocks(), 7);
    }

    private static void noSymbolsAtFirst() {
        for (int blocks : new int[] {MIN, 0, 1, 4, 8, 9, MAX}) {
            FountainDecoder x = new FountainDecoder(blocks);
            due("symbols() of " + blocks, x.symbols(), 0);
            due("lose(0)", x.lose(0), -1);
            due("rank()", x.rank(), 0);
            due("peeled()", x.peeled(), 0);
            due("spare()", x.spare(), 0);
            due("receive(1, 1)", x.receive(1, 1), 0);
        }
    }

    private static void receiveRefusesSets() {
        FountainDecoder x = new FountainDecoder(8);
        due("receive(0, 0)", x.receive(0, 0), -1);
        due("receive(0, 255)", x.receive(0, 255), -1);
        due("receive(256, 0)", x.receive(256, 0), -1);
        due("receive(-1, 0)", x.receive(-1, 0), -1);
        due("receive(1, 0)", x.receive(1, 0), 0);
        due("receive(255, 0)", x.receive(255, 0), 1);
    }

    private static void receiveRefusesValues() {
        FountainDecoder x = new FountainDecoder(8);
        for (int value : BAD_VALUES) {
            due("receive(1, " + value + ")", x.receive(1, value), -2);
        }
        due("receive(1, 0)", x.receive(1, 0), 0);
        due("receive(2, 255)", x.receive(2, 255), 1);
        due("value(0)", x.value(0), 0);
        due("value(1)", x.value(1), 255);
    }

    private static void receiveWhenFull() {
        FountainDecoder x = fill(new FountainDecoder(8), 1, 1);
        due("receive(1, 1)", x.receive(1, 1), -3);
        due("receive(128, 0)", x.receive(128, 0), -3);
        due("lose(7)", x.lose(7), 15);
        due("receive(128, 9)", x.receive(128, 9), 15);
        due("value(7)", x.value(7), 9);
        due("receive(1, 1)", x.receive(1, 1), -3);
    }

    private static void receiveAnswersTheNumber() {
        FountainDecoder x = new FountainDecoder(8);
        for (int i = 0; i < 16; i++) {
            due("receive(" + (i + 1) + ", 0)", x.receive(i + 1, 0), i);
        }
        due("lose(0)", x.lose(0), 15);
        due("lose(14)", x.lose(14), 14);
        due("receive(3, 0)", x.receive(3, 0), 14);
    }

    private static void drawRefusesNumbers() {
        FountainDecoder x = new FountainDecoder(8);
        for (int r : BAD_NUMBERS) {
            due("draw(" + r + ", 0)", x.draw(r, 0), -1);
        }
        due("symbols()", x.symbols(), 0);
        due("draw(0, 0)", x.draw(0, 0), 2);
        due("draw(9999, 0)", x.draw(9999, 0), 12);
    }

    private static void drawRefusesValues() {
        FountainDecoder x = new FountainDecoder(8);
        for (int value : BAD_VALUES) {
            due("draw(0, " + value + ")", x.draw(0, value), -2);
        }
        due("draw(0, 0)", x.draw(0, 0), 2);
        due("value(1)", x.value(1), 0);
        due("draw(1, 255)", x.draw(1, 255), 1);
        due("value(0)", x.value(0), 255);
    }

    private static void drawWhenFull() {
        FountainDecoder x = fill(new FountainDecoder(8), 1, 1);
        due("draw(0, 0)", x.draw(0, 0), -3);
        due("draw(9999, 255)", x.draw(9999, 255), -3);
        due("lose(15)", x.lose(15), 15);
        due("draw(0, 3)", x.draw(0, 3), 2);
        due("value(1)", x.value(1), 3);
        due("draw(0, 3)", x.draw(0, 3), -3);
    }

    private static void laterOnesGetNumbersLess() {
        int[] pairs = {1, 1, 2, 2, 4, 3, 8, 4, 3, 5, 6, 6, 12, 7, 9, 8, 7, 9, 14, 10, 13, 11, 11, 12, 15, 13, 5, 14, 10, 15, 1, 16};
        List<String> whole = listOf(() -> with(4, pairs));
        due("symbols of the list", whole.size(), 16);
        for (int symbol = 0; symbol < 16; symbol++) {
            int lost = symbol;
            List<String> want = new ArrayList<>(whole);
            want.remove(lost);
            due("the list after lose(" + lost + ")", listOf(() -> {
                FountainDecoder x = with(4, pairs);
                due("lose(" + lost + ")", x.lose(lost), 15);
                return x;
            }), want);
        }
    }

    private static void loseDownToNone() {
        FountainDecoder x = fill(new FountainDecoder(8), 3, 1);
        for (int left = 15; left >= 0; left--) {
            due("lose(0)", x.lose(0), left);
            due("symbols()", x.symbols(), left);
        }
        due("lose(0) of none", x.lose(0), -1);
        due("symbols()", x.symbols(), 0);
        due("sumOf(3)", x.sumOf(3), -2);
        due("receive(3, 2)", x.receive(3, 2), 0);
        due("sumOf(3)", x.sumOf(3), 2);
    }

    private static void setOfRefusesNumbers() {
        for (int n = 1; n <= 8; n++) {
            for (int r : BAD_NUMBERS) {
                due("setOf(" + r + "), n = " + n, new FountainDecoder(n).setOf(r), -1);
            }
        }
        due("setOf(0) when full", fill(new FountainDecoder(8), 1, 1).setOf(0), 2);
        due("setOf(9999) without a solution", contradicting(8).setOf(9999), 12);
    }

    private static void symbolsFromNoneToFull() {
        FountainDecoder x = new FountainDecoder(8);
        for (int i = 0; i < 16; i++) {
            due("symbols()", x.symbols(), i);
            due("a set in", i % 2 == 0 ? x.receive(1, 0) : x.draw(0, 0), i % 2 == 0 ? i : 2);
        }
        due("symbols()", x.symbols(), 16);
        x.receive(1, 0);
        x.draw(0, 0);
        due("symbols()", x.symbols(), 16);
    }

    // Promises 8 to 12

    private static void consistentWhenFull() {
        FountainDecoder x = fill(new FountainDecoder(8), 255, 255);
        due("consistent()", x.consistent(), 1);
        x.lose(0);
        x.receive(255, 254);
        due("consistent() with the last one wrong", x.consistent(), 0);
        x.lose(15);
        due("consistent() without it", x.consistent(), 1);
    }

    private static void rankFromNoneToAll() {
        for (int n = 1; n <= 8; n++) {
            due("rank() of none, n = " + n, new FountainDecoder(n).rank(), 0);
            due("rank() of all, n = " + n, allKnown(n).rank(), n);
            FountainDecoder x = fill(allKnown(n), (1 << n) - 1, 0);
            due("rank() of sixteen, n = " + n, x.rank(), n);
        }
        due("rank() of sixteen alike", fill(new FountainDecoder(8), 255, 0).rank(), 1);
        due("rank() of eight in a ring", withSets(8, 3, 6, 12, 24, 48, 96, 192, 129).rank(), 7);
    }

    private static void rankWithoutASolution() {
        due("the same set, other values", with(8, 3, 1, 3, 2, 3, 4).rank(), 1);
        due("a ring", with(8, 3, 1, 6, 1, 5, 1).rank(), 2);
    }

    private static void knownFromNoneToAll() {
        for (int n = 1; n <= 8; n++) {
            due("known() of none, n = " + n, new FountainDecoder(n).known(), 0);
            due("known() of all, n = " + n, allKnown(n).known(), (1 << n) - 1);
            due("known() without a solution, n = " + n, contradicting(n).known(), 0);
        }
        due("known(), all but for the last bit of a ring",
                withSets(8, 3, 6, 12, 24, 48, 96, 192).known(), 0);
        due("known(), a ring with one more",
                withSets(8, 3, 6, 12, 24, 48, 96, 192, 254).known(), 255);
    }

    private static void valueRefusesBlocks() {
        for (FountainDecoder x : Arrays.asList(new FountainDecoder(4), allKnown(4), contradicting(4))) {
            for (int block : new int[] {-1, 4, 5, 7, 8, 32, 35, MIN, MAX}) {
                due("value(" + block + ")", x.value(block), -1);
            }
        }
    }

    private static void valueOfUnknownBlocks() {
        FountainDecoder x = with(4, 1, 0, 12, 255);
        due("value(0), which is 0", x.value(0), 0);
        due("value(1), in no symbol", x.value(1), -2);
        due("value(2), in a pair", x.value(2), -2);
        due("value(3), in a pair", x.value(3), -2);
        due("value(0) without symbols", new FountainDecoder(1).value(0), -2);
        due("value(0) without a solution", contradicting(1).value(0), -2);
    }

    private static void sumOfRefusesSets() {
        for (FountainDecoder x : Arrays.asList(new FountainDecoder(4), allKnown(4), contradicting(4))) {
            for (int set : new int[] {-1, 16, 17, 255, 256, MIN, MAX}) {
                due("sumOf(" + set + ")", x.sumOf(set), -1);
            }
        }
    }

    private static void sumOfWithoutOneNumber() {
        FountainDecoder x = with(4, 3, 0, 12, 255);
        due("sumOf(3), which is 0", x.sumOf(3), 0);
        due("sumOf(15)", x.sumOf(15), 255);
        for (int set : new int[] {1, 2, 4, 5, 7, 8, 11, 14}) {
            due("sumOf(" + set + ")", x.sumOf(set), -2);
        }
        for (int set = 0; set < 16; set++) {
            due("sumOf(" + set + ") without a solution", contradicting(4).sumOf(set), -2);
        }
    }

    private static void sumOfTheEmptySet() {
        due("without symbols", new FountainDecoder(8).sumOf(0), 0);
        due("with all known", allKnown(8).sumOf(0), 0);
        due("when full", fill(new FountainDecoder(8), 255, 255).sumOf(0), 0);
        due("without a solution", contradicting(8).sumOf(0), -2);
    }

    // Promises 13 to 19

    private static void peeledFromNoneToAll() {
        for (int n = 1; n <= 8; n++) {
            due("peeled() of none, n = " + n, new FountainDecoder(n).peeled(), 0);
            due("peeled() of all, n = " + n, allKnown(n).peeled(), (1 << n) - 1);
            due("peeled() without a solution, n = " + n, contradicting(n).peeled(), 1);
        }
        due("peeled(), known but stuck", withSets(3, 3, 6, 7).peeled(), 0);
        due("peeled() of the longest chain, when full",
                withSets(8, 255, 127, 63, 31, 15, 7, 3, 255, 127, 63, 31, 15, 7, 3, 3, 1).peeled(), 255);
    }

    private static void isSeedRefusesSets() {
        for (FountainDecoder x : Arrays.asList(new FountainDecoder(4), allKnown(4), contradicting(4))) {
            for (int set : new int[] {-1, 16, 17, 31, 255, 256, -16, MIN, MAX}) {
                due("isSeed(" + set + ")", x.isSeed(set), -1);
            }
        }
        due("isSeed(0) without a solution", contradicting(1).isSeed(0), 1);
    }

    private static void seedSizeFromNoneToAll() {
        for (int n = 1; n <= 8; n++) {
            due("seedSize() without symbols, n = " + n, new FountainDecoder(n).seedSize(), n);
            due("seedSize() with all peeled, n = " + n, allKnown(n).seedSize(), 0);
            due("seedSize() with the whole, n = " + n, with(n, (1 << n) - 1, 0).seedSize(), n - 1);
        }
        due("seedSize() of a ring", withSets(8, 3, 6, 12, 24, 48, 96, 192, 129).seedSize(), 1);
        due("seedSize() without a solution", contradicting(2).seedSize(), 1);
    }

    private static void seedFromNoneToAll() {
        for (int n = 1; n <= 8; n++) {
            int all = (1 << n) - 1;
            due("seed() without symbols, n = " + n, new FountainDecoder(n).seed(), all);
            due("seed() with all peeled, n = " + n, allKnown(n).seed(), 0);
            due("seed() with the whole, n = " + n, with(n, all, 0).seed(), all >> 1);
        }
        due("seed() of a ring", withSets(8, 3, 6, 12, 24, 48, 96, 192, 129).seed(), 1);
        due("seed() with only the last block left", withSets(8, 1, 2, 4, 8, 16, 32, 64).seed(), 128);
        due("seed() without a solution", contradicting(2).seed(), 2);
    }

    private static void fewMembersBeforeALeastNumber() {
        FountainDecoder x = withSets(4, 12, 13, 14, 7);
        due("isSeed(3)", x.isSeed(3), 1);
        due("seedSize()", x.seedSize(), 1);
        due("seed()", x.seed(), 4);
    }

    private static void spareFromNoneToAll() {
        for (int n = 1; n <= 8; n++) {
            due("spare() of none, n = " + n, new FountainDecoder(n).spare(), 0);
            due("spare() when each is needed, n = " + n, allKnown(n).spare(), 0);
            due("spare() of sixteen alike, n = " + n, fill(new FountainDecoder(n), (1 << n) - 1, 0).spare(), 16);
        }
        due("spare() of one that tells nothing", withSets(2, 3).spare(), 1);
        FountainDecoder x = fill(withSets(8, 1, 2, 4, 8, 16, 32, 64), 128, 200);
        due("spare() when seven of sixteen are needed", x.spare(), 9);
        due("symbols() after spare()", x.symbols(), 16);
    }

    private static void spareWithoutASolution() {
        // Without a solution known() is empty, and no set is smaller than that.
        due("spare() when leaving one out mends it", contradicting(8).spare(), 2);
        due("spare() when nothing mends it", with(8, 1, 0, 1, 1, 2, 0, 2, 1, 4, 0).spare(), 5);
    }

    private static void usefulFromFirstToLast() {
        // The greatest answers there are for each n: all that sums of symbols' sets can
        // span was tried once, and no other state leads farther.
        due("useful(), n = 1", new FountainDecoder(1).useful(), 0);
        due("useful(), n = 2", withSets(2, 2).useful(), 1);
        due("useful(), n = 3", withSets(3, 4, 2).useful(), 2);
        due("useful(), n = 4", withSets(4, 8, 2, 1).useful(), 3);
        due("useful(), n = 5", withSets(5, 16, 8, 4, 2).useful(), 4);
        due("useful(), n = 6", withSets(6, 32, 16, 8).useful(), 5);
        due("useful(), n = 7", withSets(7, 64, 32, 16, 8, 4, 1).useful(), 8);
        due("useful(), n = 8", withSets(8, 128, 64, 16, 2, 1).useful(), 7);
        for (int n = 1; n <= 8; n++) {
            due("useful() without symbols, n = " + n, new FountainDecoder(n).useful(), 0);
        }
    }

    private static void usefulWhenThereIsNone() {
        for (int n = 1; n <= 8; n++) {
            due("useful() with all known, n = " + n, allKnown(n).useful(), -1);
        }
        due("useful() with all known but stuck", withSets(3, 3, 6, 7).useful(), -1);
    }

    private static void usefulWithoutASolution() {
        for (int n = 1; n <= 8; n++) {
            due("useful(), n = " + n, contradicting(n).useful(), -1);
        }
        FountainDecoder x = contradicting(8);
        x.lose(1);
        due("useful() with a solution again", x.useful(), 0);
    }

    private static void usefulWhenFull() {
        FountainDecoder x = fill(withSets(7, 64, 32, 16, 8, 4, 1), 1, 5 * 37);
        due("symbols()", x.symbols(), 16);
        due("useful() when full", x.useful(), 8);
        due("symbols() after it", x.symbols(), 16);
        due("draw(8, 0) is refused all the same", x.draw(8, 0), -3);
        due("useful() of sixteen alike", fill(new FountainDecoder(8), 255, 9).useful(), 0);
        due("useful() when full with all known", fill(allKnown(8), 1, 0).useful(), -1);
        due("useful() when full without a solution", fill(contradicting(8), 1, 5).useful(), -1);
    }

    private static void terms() {
        test("An object is used for at most 512 calls", BoundaryTest::callsUpToTheLast);
        test("There are n BLOCKS, 0 .. n-1, each an unknown number 0 .. 255", BoundaryTest::firstAndLastBlock);
        test("The SUM of numbers is their bitwise exclusive or", BoundaryTest::numbersOfSums);
        test("There is a list of at most 16 SYMBOLS", BoundaryTest::atMostSixteen);
        test("numbered 0, 1, 2, .. in their order", BoundaryTest::inTheirOrder);
        test("CONSISTENT if there are numbers for all blocks, no symbols", BoundaryTest::solutionsForNoSymbols);
        test("CONSISTENT if there are numbers for all blocks, one bit", BoundaryTest::contradictionInOneBit);
        test("KNOWN if it has the same number in all solutions and there is one",
                BoundaryTest::nothingKnownWithoutASolution);
        test("as long as some symbol has just one block in it that has not been peeled",
                BoundaryTest::justOneBlockLeft);
        test("Which block is peeled first does not matter in the end", BoundaryTest::anyOrderOfPeeling);
        test("with the blocks of the set taken as peeled at the beginning, peels all others",
                BoundaryTest::seedsThatAreAllOrNone);
        test("The symbol of a NUMBER r, 0 .. 9999", BoundaryTest::firstAndLastNumber);
        test("the first size ones count", BoundaryTest::theFirstSizeOnes);
        test("the blocks that occur once or three times among these", BoundaryTest::onceOrThreeTimes);
        test("if there is none, it is just block 0", BoundaryTest::noneIsBlockZero);
        test("No question changes anything, the list", BoundaryTest::questionsChangeNothing);
        test("No question changes anything, the answers", BoundaryTest::questionsAfterQuestions);
        test("A refused call changes nothing", BoundaryTest::refusedCallsChangeNothing);
        test("In every method the tests are made in the order named", BoundaryTest::testsInTheOrderNamed);
        test("a block is good if it is 0 .. n-1", BoundaryTest::goodBlocks);
        test("a symbol if there is such a symbol", BoundaryTest::goodSymbols);
        test("a set of blocks if it is 0 .. 2^n - 1", BoundaryTest::goodSets);
    }

    private static void promises1To7() {
        test("1: below 1 becomes 1", BoundaryTest::tooFewBlocks);
        test("1: above 8 becomes 8", BoundaryTest::tooManyBlocks);
        test("1: No symbols at first", BoundaryTest::noSymbolsAtFirst);
        test("3: -1 if set is not good or is 0", BoundaryTest::receiveRefusesSets);
        test("3: -2 if value is not in 0 .. 255", BoundaryTest::receiveRefusesValues);
        test("3: -3 if there are 16 symbols", BoundaryTest::receiveWhenFull);
        test("3: otherwise answers its number", BoundaryTest::receiveAnswersTheNumber);
        test("4: -1 if r is not in 0 .. 9999", BoundaryTest::drawRefusesNumbers);
        test("4: -2 if value is not in 0 .. 255", BoundaryTest::drawRefusesValues);
        test("4: -3 if there are 16 symbols", BoundaryTest::drawWhenFull);
        test("5: later ones get numbers less by one", BoundaryTest::laterOnesGetNumbersLess);
        test("5: answers how many are left, down to none", BoundaryTest::loseDownToNone);
        test("6: -1 if r is not in 0 .. 9999", BoundaryTest::setOfRefusesNumbers);
        test("7: How many symbols there are, none to 16", BoundaryTest::symbolsFromNoneToFull);
    }

    private static void promises8To19() {
        test("8: 1 if the symbols are consistent, when full", BoundaryTest::consistentWhenFull);
        test("9: The greatest number, 0 to n", BoundaryTest::rankFromNoneToAll);
        test("9: no sum of one or more, as sets", BoundaryTest::rankWithoutASolution);
        test("10: The set of all known blocks, none to all", BoundaryTest::knownFromNoneToAll);
        test("11: -1 if block is not good", BoundaryTest::valueRefusesBlocks);
        test("11: -2 if it is not known", BoundaryTest::valueOfUnknownBlocks);
        test("12: -1 if set is not good", BoundaryTest::sumOfRefusesSets);
        test("12: -2 if it has not the same number in all of them, or there is none",
                BoundaryTest::sumOfWithoutOneNumber);
        test("12: 0 for the empty set, if there is a solution", BoundaryTest::sumOfTheEmptySet);
        test("13: The set of the blocks that peeling peels, none to all", BoundaryTest::peeledFromNoneToAll);
        test("14: -1 if set is not good", BoundaryTest::isSeedRefusesSets);
        test("15: The least number of members of a seed, 0 to n", BoundaryTest::seedSizeFromNoneToAll);
        test("16: The least number of a seed, none to all", BoundaryTest::seedFromNoneToAll);
        test("16: with so few members", BoundaryTest::fewMembersBeforeALeastNumber);
        test("17: How many symbols could be left out, none to 16", BoundaryTest::spareFromNoneToAll);
        test("17: without making known() a smaller set, no solution", BoundaryTest::spareWithoutASolution);
        test("18: The least number r, first to last", BoundaryTest::usefulFromFirstToLast);
        test("18: -1 if there is none", BoundaryTest::usefulWhenThereIsNone);
        test("18: -1 if the symbols are not consistent", BoundaryTest::usefulWithoutASolution);
        test("19: that there may be at most 16 symbols does not matter there", BoundaryTest::usefulWhenFull);
    }

    public static void main(String[] args) {
        terms();
        promises1To7();
        promises8To19();
        System.out.println(wrong == 0 ? "all boundary cases are as due" : wrong + " boundary cases are not as due");
        if (wrong != 0) {
            System.exit(1);
        }
    }
}
