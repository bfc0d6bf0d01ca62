/** Each promise by hand-made calls: ordinary inputs, edges and wrong inputs. */
public final class PromiseTest {
    private static final int MIN = Integer.MIN_VALUE;
    private static final int MAX = Integer.MAX_VALUE;

    private static int wrong = 0;
    private static int promise = 0;

    private static void due(String call, int got, int want) {
        if (got != want) {
            wrong++;
            System.out.println("promise " + promise + ": " + call + " answered " + got + ", due is " + want);
        }
    }

    /** Pairs of a set and a value. */
    private static FountainDecoder with(int blocks, int... pairs) {
        FountainDecoder x = new FountainDecoder(blocks);
        for (int i = 0; i < pairs.length; i += 2) {
            due("receive(" + pairs[i] + ", " + pairs[i + 1] + ")", x.receive(pairs[i], pairs[i + 1]), i / 2);
        }
        return x;
    }

    private static FountainDecoder full() {
        FountainDecoder x = new FountainDecoder(3);
        for (int i = 0; i < 16; i++) {
            due("receive(7, 1)", x.receive(7, 1), i);
        }
        return x;
    }

    private static void newObject() {
        promise = 1;
        int[] asked = {MIN, -1, 0, 1, 2, 7, 8, 9, MAX};
        int[] made = {1, 1, 1, 1, 2, 7, 8, 8, 8};
        for (int i = 0; i < asked.length; i++) {
            FountainDecoder x = new FountainDecoder(asked[i]);
            due("blocks() of " + asked[i], x.blocks(), made[i]);
            due("symbols()", x.symbols(), 0);
            due("seed()", x.seed(), (1 << made[i]) - 1);
            due("sumOf(2^n)", x.sumOf(1 << made[i]), -1);
        }
    }

    private static void blocks() {
        promise = 2;
        for (int n = 1; n <= 8; n++) {
            FountainDecoder x = with(n, 1, 4, 1, 5);
            due("blocks()", x.blocks(), n);
        }
    }

    private static void receive() {
        promise = 3;
        FountainDecoder x = new FountainDecoder(3);
        due("receive(0, 0)", x.receive(0, 0), -1);
        due("receive(-1, 0)", x.receive(-1, 0), -1);
        due("receive(8, 0)", x.receive(8, 0), -1);
        due("receive(MIN, 0)", x.receive(MIN, 0), -1);
        due("receive(MAX, 0)", x.receive(MAX, 0), -1);
        due("receive(1, -1)", x.receive(1, -1), -2);
        due("receive(1, 256)", x.receive(1, 256), -2);
        due("receive(1, MIN)", x.receive(1, MIN), -2);
        due("receive(1, MAX)", x.receive(1, MAX), -2);
        due("receive(0, 256)", x.receive(0, 256), -1);
        due("symbols()", x.symbols(), 0);
        due("receive(1, 0)", x.receive(1, 0), 0);
        due("receive(7, 255)", x.receive(7, 255), 1);
        due("value(0)", x.value(0), 0);
        due("sumOf(6)", x.sumOf(6), 255);

        FountainDecoder y = full();
        due("receive(1, 0) when full", y.receive(1, 0), -3);
        due("receive(0, 0) when full", y.receive(0, 0), -1);
        due("receive(8, 300) when full", y.receive(8, 300), -1);
        due("receive(1, 256) when full", y.receive(1, 256), -2);
        due("symbols()", y.symbols(), 16);
        due("known()", y.known(), 0);
        due("lose(15)", y.lose(15), 15);
        due("receive(1, 0) again", y.receive(1, 0), 15);
        due("known()", y.known(), 1);
    }

    private static void draw() {
        promise = 4;
        FountainDecoder x = new FountainDecoder(8);
        due("draw(-1, 0)", x.draw(-1, 0), -1);
        due("draw(10000, 0)", x.draw(10000, 0), -1);
        due("draw(MIN, 0)", x.draw(MIN, 0), -1);
        due("draw(MAX, 0)", x.draw(MAX, 0), -1);
        due("draw(-1, 256)", x.draw(-1, 256), -1);
        due("draw(0, -1)", x.draw(0, -1), -2);
        due("draw(0, 256)", x.draw(0, 256), -2);
        due("symbols()", x.symbols(), 0);
        due("draw(0, 255)", x.draw(0, 255), 2);
        due("value(1)", x.value(1), 255);
        due("draw(9999, 0)", x.draw(9999, 0), 12);
        due("sumOf(12)", x.sumOf(12), 0);
        due("symbols()", x.symbols(), 2);

        FountainDecoder y = full();
        due("draw(0, 0) when full", y.draw(0, 0), -3);
        due("draw(10000, 0) when full", y.draw(10000, 0), -1);
        due("draw(0, 256) when full", y.draw(0, 256), -2);
        due("symbols()", y.symbols(), 16);
    }

    private static void lose() {
        promise = 5;
        FountainDecoder x = with(4, 1, 10, 2, 20, 4, 30, 8, 40);
        due("lose(-1)", x.lose(-1), -1);
        due("lose(4)", x.lose(4), -1);
        due("lose(MIN)", x.lose(MIN), -1);
        due("lose(MAX)", x.lose(MAX), -1);
        due("symbols()", x.symbols(), 4);
        due("lose(1)", x.lose(1), 3);
        due("known()", x.known(), 13);
        due("value(2)", x.value(2), 30);
        // What was symbol 2 is now symbol 1.
        due("lose(1)", x.lose(1), 2);
        due("known()", x.known(), 9);
        due("lose(2)", x.lose(2), -1);
        due("lose(1)", x.lose(1), 1);
        due("known()", x.known(), 1);
        due("lose(0)", x.lose(0), 0);
        due("lose(0)", x.lose(0), -1);
        due("known()", x.known(), 0);
        FountainDecoder y = full();
        due("lose(16)", y.lose(16), -1);
        due("lose(0)", y.lose(0), 15);
    }

    private static void setOf() {
        promise = 6;
        FountainDecoder x = new FountainDecoder(8);
        due("setOf(-1)", x.setOf(-1), -1);
        due("setOf(10000)", x.setOf(10000), -1);
        due("setOf(MIN)", x.setOf(MIN), -1);
        due("setOf(MAX)", x.setOf(MAX), -1);
        due("setOf(0)", x.setOf(0), 2);
        due("setOf(3)", x.setOf(3), 80);
        due("setOf(17)", x.setOf(17), 137);
        due("setOf(9999)", x.setOf(9999), 12);
        due("setOf(8), blocks 1, 2, 2", x.setOf(8), 2);
        due("setOf(16), blocks 1, 1", x.setOf(16), 1);
        due("setOf(165), blocks 4, 4, 4", x.setOf(165), 16);
        due("symbols()", x.symbols(), 0);
        FountainDecoder y = new FountainDecoder(1);
        for (int r = 0; r < 20; r++) {
            due("setOf(" + r + ") of one block", y.setOf(r), 1);
        }
        due("setOf(0) when full", full().setOf(0), new FountainDecoder(3).setOf(0));
    }

    private static void symbols() {
        promise = 7;
        FountainDecoder x = new FountainDecoder(5);
        due("symbols()", x.symbols(), 0);
        x.receive(1, 1);
        x.draw(7, 1);
        x.receive(1, 1);
        due("symbols()", x.symbols(), 3);
        x.lose(0);
        due("symbols()", x.symbols(), 2);
        x.lose(5);
        x.receive(0, 0);
        due("symbols()", x.symbols(), 2);
        due("symbols() when full", full().symbols(), 16);
    }

    private static void consistent() {
        promise = 8;
        due("none", with(4).consistent(), 1);
        due("twice the same", with(4, 3, 9, 3, 9).consistent(), 1);
        due("same set, other value", with(4, 3, 9, 3, 8).consistent(), 0);
        due("round of sums", with(4, 3, 9, 6, 5, 5, 12).consistent(), 1);
        due("broken round of sums", with(4, 3, 9, 6, 5, 5, 13).consistent(), 0);
        due("broken in the top bit", with(4, 3, 0, 6, 0, 5, 128).consistent(), 0);
        FountainDecoder x = with(4, 3, 9, 3, 8);
        x.lose(0);
        due("mended", x.consistent(), 1);
    }

    private static void rank() {
        promise = 9;
        due("none", with(8).rank(), 0);
        due("one", with(8, 255, 0).rank(), 1);
        due("twice", with(8, 3, 1, 3, 1).rank(), 1);
        due("twice, not consistent", with(8, 3, 1, 3, 2).rank(), 1);
        due("round", with(8, 3, 1, 6, 2, 5, 3).rank(), 2);
        due("not consistent round", with(8, 3, 1, 6, 2, 5, 4, 128, 0).rank(), 3);
        due("all", with(3, 7, 0, 3, 0, 5, 0, 1, 0).rank(), 3);
        due("sixteen alike", full().rank(), 1);
    }

    private static void known() {
        promise = 10;
        due("none", with(4).known(), 0);
        due("pair", with(4, 3, 1).known(), 0);
        due("single", with(4, 8, 1).known(), 8);
        due("by peeling", with(4, 1, 1, 3, 2).known(), 3);
        due("without peeling", with(4, 3, 1, 6, 2, 7, 7).known(), 7);
        due("two triples", with(4, 7, 1, 3, 2).known(), 4);
        due("not consistent", with(4, 1, 1, 2, 2, 4, 3, 1, 2).known(), 0);
    }

    private static void value() {
        promise = 11;
        FountainDecoder x = with(4, 7, 200, 3, 100, 2, 50);
        due("value(0)", x.value(0), 100 ^ 50);
        due("value(1)", x.value(1), 50);
        due("value(2)", x.value(2), 200 ^ 100);
        due("value(3)", x.value(3), -2);
        due("value(4)", x.value(4), -1);
        due("value(-1)", x.value(-1), -1);
        due("value(MIN)", x.value(MIN), -1);
        due("value(MAX)", x.value(MAX), -1);
        due("value(32)", x.value(32), -1);
        x.receive(2, 51);
        due("value(2) when not consistent", x.value(2), -2);
        due("value(4) when not consistent", x.value(4), -1);
    }

    private static void sumOf() {
        promise = 12;
        FountainDecoder x = with(4, 3, 9, 6, 5);
        due("sumOf(0)", x.sumOf(0), 0);
        due("sumOf(3)", x.sumOf(3), 9);
        due("sumOf(5)", x.sumOf(5), 12);
        due("sumOf(1)", x.sumOf(1), -2);
        due("sumOf(7)", x.sumOf(7), -2);
        due("sumOf(15)", x.sumOf(15), -2);
        due("sumOf(16)", x.sumOf(16), -1);
        due("sumOf(-1)", x.sumOf(-1), -1);
        due("sumOf(MIN)", x.sumOf(MIN), -1);
        due("sumOf(MAX)", x.sumOf(MAX), -1);
        x.receive(5, 0);
        due("sumOf(0) when not consistent", x.sumOf(0), -2);
        due("sumOf(3) when not consistent", x.sumOf(3), -2);
        due("sumOf(16) when not consistent", x.sumOf(16), -1);
    }

    private static void peeled() {
        promise = 13;
        due("none", with(4).peeled(), 0);
        due("stuck though known", with(4, 3, 1, 6, 2, 7, 7).peeled(), 0);
        due("chain in the worst order",
                with(8, 192, 0, 96, 0, 48, 0, 24, 0, 12, 0, 6, 0, 3, 0, 1, 0).peeled(), 255);
        due("chain in the best order",
                with(8, 1, 0, 3, 0, 6, 0, 12, 0, 24, 0, 48, 0, 96, 0, 192, 0).peeled(), 255);
        due("part", with(5, 1, 0, 3, 0, 28, 0).peeled(), 3);
        due("not consistent", with(5, 1, 0, 1, 1, 3, 0).peeled(), 3);
    }

    private static void isSeed() {
        promise = 14;
        FountainDecoder x = with(4, 3, 0, 14, 0);
        due("isSeed(0)", x.isSeed(0), 0);
        due("isSeed(1)", x.isSeed(1), 0);
        due("isSeed(5)", x.isSeed(5), 1);
        due("isSeed(6)", x.isSeed(6), 1);
        due("isSeed(12)", x.isSeed(12), 1);
        due("isSeed(3)", x.isSeed(3), 0);
        due("isSeed(15)", x.isSeed(15), 1);
        due("isSeed(16)", x.isSeed(16), -1);
        due("isSeed(-1)", x.isSeed(-1), -1);
        due("isSeed(MIN)", x.isSeed(MIN), -1);
        due("isSeed(MAX)", x.isSeed(MAX), -1);
        x.receive(3, 1);
        due("isSeed(5) when not consistent", x.isSeed(5), 1);
        due("isSeed(0) when all are peeled", with(2, 1, 0, 3, 0).isSeed(0), 1);
    }

    private static void seedSizeAndSeed() {
        promise = 16;
        due15And16("no symbols", with(4), 4, 15);
        due15And16("all peeled", with(2, 3, 0, 2, 0), 0, 0);
        due15And16("one pair", with(3, 3, 0), 2, 5);
        due15And16("one whole", with(3, 7, 0), 2, 3);
        // 24 is a seed of two members as well, but a greater number.
        due15And16("least of several", with(5, 25, 0, 26, 0, 28, 0), 2, 9);
        due15And16("star round the last block", with(4, 11, 0, 13, 0, 14, 0), 2, 3);
        due15And16("not consistent", with(3, 3, 0, 3, 1), 2, 5);
        due15And16("one block that no symbol has", with(4, 3, 0, 1, 0, 8, 0), 1, 4);
        // 3 is a seed and the lesser number, but it has two members.
        FountainDecoder x = with(4, 12, 0, 13, 0, 14, 0, 7, 0);
        due("isSeed(3)", x.isSeed(3), 1);
        due15And16("fewer members before a lesser number", x, 1, 4);
    }

    private static void due15And16(String what, FountainDecoder x, int size, int seed) {
        promise = 15;
        due("seedSize() with " + what, x.seedSize(), size);
        promise = 16;
        due("seed() with " + what, x.seed(), seed);
    }

    private static void spare() {
        promise = 17;
        due("none", with(3).spare(), 0);
        due("one that tells a block", with(3, 1, 0).spare(), 0);
        due("one that tells none", with(3, 3, 0).spare(), 1);
        due("two of which either does", with(3, 1, 0, 1, 0).spare(), 2);
        due("three of a round", with(3, 1, 5, 2, 6, 3, 3).spare(), 3);
        due("some", with(3, 1, 5, 2, 6, 3, 3, 4, 1).spare(), 3);
        due("not consistent", with(3, 1, 5, 1, 6, 4, 3).spare(), 3);
        due("sixteen alike", full().spare(), 16);
        FountainDecoder x = with(3, 1, 5, 2, 6, 3, 3, 4, 1);
        due("spare()", x.spare(), 3);
        due("symbols() after spare()", x.symbols(), 4);
        due("known() after spare()", x.known(), 7);
    }

    private static void useful() {
        promise = 18;
        FountainDecoder x = new FountainDecoder(8);
        due("none", x.useful(), 0);
        x.draw(0, 0);
        due("after draw(0, 0)", x.useful(), 1);
        // The sets of the numbers 0 .. 5 are 2, 1, 128, 80, 36 and 17: those of 3 and
        // 4 are new, but tell no block.
        due("new sums that tell nothing", with(8, 2, 0, 1, 0, 128, 0).useful(), 5);
        // The set 80 of the number 3 is fixed by 84 and 4; block 2 makes 36 tell block 5.
        due("a sum that is fixed", with(8, 131, 0, 1, 0, 2, 0, 84, 0, 4, 9).useful(), 4);
        due("one block", with(1).useful(), 0);
        due("one block, known", with(1, 1, 0).useful(), -1);
        due("all known", with(3, 1, 0, 2, 0, 4, 0).useful(), -1);
        due("not consistent", with(3, 1, 0, 1, 1).useful(), -1);
        due("symbols()", x.symbols(), 1);
    }

    private static void orderAndLimits() {
        promise = 19;
        FountainDecoder x = new FountainDecoder(8);
        for (int i = 0; i < 16; i++) {
            x.receive(3, 4);
        }
        FountainDecoder y = with(8, 3, 4);
        due("symbols()", x.symbols(), 16);
        due("useful() when full", x.useful(), y.useful());
        due("useful() when full", x.useful(), 0);
        due("symbols()", x.symbols(), 16);
    }

    public static void main(String[] args) {
        newObject();
        blocks();
        receive();
        draw();
        lose();
        setOf();
        symbols();
        consistent();
        rank();
        known();
        value();
        sumOf();
        peeled();
        isSeed();
        seedSizeAndSeed();
        spare();
        useful();
        orderAndLimits();
        System.out.println(wrong == 0 ? "all answers are as due" : wrong + " answers are not as due");
        if (wrong != 0) {
            System.exit(1);
        }
    }
}
