/** Unknown blocks that are got back from sums of some of them. */
public final class FountainDecoder {
    private static final int MAX_BLOCKS = 8;
    private static final int MAX_SYMBOLS = 16;
    private static final int MAX_VALUE = 255;
    private static final int MAX_NUMBER = 9999;

    // A row is a set of blocks above the eight bits of its value, so that one
    // exclusive or adds both the sets and the values of two rows.
    private static final int VALUE_BITS = 8;

    private static final int NO_SYMBOL = -1;

    private final int blockCount;
    private final int allBlocks;

    private final int[] symbolRows = new int[MAX_SYMBOLS];
    private int symbolCount = 0;

    // Worked out anew by every question that needs it, because leaving a symbol
    // out cannot be undone in a basis. basis[b] is 0 or a row with top block b.
    private final int[] basis = new int[MAX_BLOCKS];
    private int basisSize = 0;
    private boolean contradiction = false;

    public FountainDecoder(int blocks) {
        blockCount = blocks < 1 ? 1 : (blocks > MAX_BLOCKS ? MAX_BLOCKS : blocks);
        allBlocks = (1 << blockCount) - 1;
    }

    public int blocks() {
        return blockCount;
    }

    public int receive(int set, int value) {
        if (!isGoodSet(set) || set == 0) {
            return -1;
        }
        if (!isGoodValue(value)) {
            return -2;
        }
        if (symbolCount >= MAX_SYMBOLS) {
            return -3;
        }
        append(set, value);
        return symbolCount - 1;
    }

    public int draw(int r, int value) {
        if (!isGoodNumber(r)) {
            return -1;
        }
        if (!isGoodValue(value)) {
            return -2;
        }
        if (symbolCount >= MAX_SYMBOLS) {
            return -3;
        }
        int set = setOfNumber(r);
        append(set, value);
        return set;
    }

    public int lose(int symbol) {
        if (symbol < 0 || symbol >= symbolCount) {
            return -1;
        }
        for (int i = symbol + 1; i < symbolCount; i++) {
            symbolRows[i - 1] = symbolRows[i];
        }
        symbolCount--;
        return symbolCount;
    }

    public int setOf(int r) {
        return isGoodNumber(r) ? setOfNumber(r) : -1;
    }

    public int symbols() {
        return symbolCount;
    }

    public int consistent() {
        buildBasisWithout(NO_SYMBOL);
        return contradiction ? 0 : 1;
    }

    public int rank() {
        buildBasisWithout(NO_SYMBOL);
        return basisSize;
    }

    public int known() {
        return knownWithout(NO_SYMBOL);
    }

    public int value(int block) {
        if (block < 0 || block >= blockCount) {
            return -1;
        }
        return fixedSum(1 << block);
    }

    public int sumOf(int set) {
        return isGoodSet(set) ? fixedSum(set) : -1;
    }

    public int peeled() {
        return peelFrom(0);
    }

    public int isSeed(int set) {
        if (!isGoodSet(set)) {
            return -1;
        }
        return peelFrom(set) == allBlocks ? 1 : 0;
    }

    public int seedSize() {
        int best = leastSeed();
        return memberCount(best);
    }

    public int seed() {
        return leastSeed();
    }

    public int spare() {
        int before = knownWithout(NO_SYMBOL);
        int count = 0;
        for (int i = 0; i < symbolCount; i++) {
            int after = knownWithout(i);
            // Contradicting symbols leave nothing known, so a set that grows
            // when one of them goes is not a smaller one.
            if ((before & ~after) == 0) {
                count++;
            }
        }
        return count;
    }

    public int useful() {
        int known = knownWithout(NO_SYMBOL);
        if (contradiction) {
            return -1;
        }
        for (int r = 0; r <= MAX_NUMBER; r++) {
            int set = setOfNumber(r);
            if (wouldReveal(set, known)) {
                return r;
            }
        }
        return -1;
    }

    private boolean isGoodSet(int set) {
        return set >= 0 && set <= allBlocks;
    }

    private static boolean isGoodValue(int value) {
        return value >= 0 && value <= MAX_VALUE;
    }

    private static boolean isGoodNumber(int r) {
        return r >= 0 && r <= MAX_NUMBER;
    }

    /** The caller has seen that there is room. */
    private void append(int set, int value) {
        symbolRows[symbolCount] = (set << VALUE_BITS) | value;
        symbolCount++;
    }

    private int setOfNumber(int r) {
        int x = r * 7919 + 104729;
        int size = 1 + (x / 7) % 3;
        int set = 0;
        int rest = x;
        for (int i = 0; i < size; i++) {
            // A block that is met twice drops out and comes back the third time.
            set ^= 1 << (rest % blockCount);
            rest /= blockCount;
        }
        return set == 0 ? 1 : set;
    }

    private void buildBasisWithout(int omitted) {
        for (int b = 0; b < MAX_BLOCKS; b++) {
            basis[b] = 0;
        }
        basisSize = 0;
        contradiction = false;
        for (int i = 0; i < symbolCount; i++) {
            if (i != omitted) {
                addToBasis(symbolRows[i]);
            }
        }
    }

    private void addToBasis(int row) {
        int rest = reduce(row);
        for (int b = MAX_BLOCKS - 1; b >= 0; b--) {
            int bit = 1 << (VALUE_BITS + b);
            if ((rest & bit) != 0) {
                basis[b] = rest;
                basisSize++;
                return;
            }
        }
        // No block is left: the other symbols already say what the sum is.
        if (rest != 0) {
            contradiction = true;
        }
    }

    /** What is left of a row when the basis rows that fit have been added to it. */
    private int reduce(int row) {
        int rest = row;
        for (int b = MAX_BLOCKS - 1; b >= 0; b--) {
            int bit = 1 << (VALUE_BITS + b);
            if ((rest & bit) != 0) {
                rest ^= basis[b];
            }
        }
        return rest;
    }

    /** Leaves the basis of the same symbols behind. */
    private int knownWithout(int omitted) {
        buildBasisWithout(omitted);
        int known = 0;
        if (contradiction) {
            return known;
        }
        for (int b = 0; b < blockCount; b++) {
            if (isSpanned(1 << b)) {
                known |= 1 << b;
            }
        }
        return known;
    }

    private boolean isSpanned(int set) {
        int rest = reduce(set << VALUE_BITS);
        return (rest >> VALUE_BITS) == 0;
    }

    private int fixedSum(int set) {
        buildBasisWithout(NO_SYMBOL);
        if (contradiction) {
            return -2;
        }
        int rest = reduce(set << VALUE_BITS);
        return (rest >> VALUE_BITS) == 0 ? rest : -2;
    }

    /**
     * A new sum makes an unknown block known just if the two together make a sum
     * that is fixed already; a sum that is itself fixed never does, and any other
     * leaves the symbols consistent. Needs the basis of all symbols.
     */
    private boolean wouldReveal(int set, int known) {
        for (int b = 0; b < blockCount; b++) {
            boolean isKnown = ((known >> b) & 1) != 0;
            if (!isKnown && isSpanned(set ^ (1 << b))) {
                return true;
            }
        }
        return false;
    }

    private int peelFrom(int start) {
        int done = start;
        // A round that peels nothing is the end, so as many rounds as blocks are enough.
        for (int round = 0; round < blockCount; round++) {
            for (int i = 0; i < symbolCount; i++) {
                int left = (symbolRows[i] >> VALUE_BITS) & ~done;
                boolean atMostOne = (left & (left - 1)) == 0;
                if (atMostOne) {
                    done |= left;
                }
            }
        }
        return done;
    }

    /** The set of all blocks is always a seed, so there is one to begin with. */
    private int leastSeed() {
        int best = allBlocks;
        int bestSize = blockCount;
        for (int set = 0; set <= allBlocks; set++) {
            int size = memberCount(set);
            if (size < bestSize && peelFrom(set) == allBlocks) {
                best = set;
                bestSize = size;
            }
        }
        return best;
    }

    private static int memberCount(int set) {
        int count = 0;
        for (int b = 0; b < MAX_BLOCKS; b++) {
            count += (set >> b) & 1;
        }
        return count;
    }
}
