import java.util.ArrayList;
import java.util.List;

/**
 * Long runs of calls beside a slow model that follows the document's words: it
 * tries all numbers for all blocks (each of the eight bits by itself, because the
 * sum is bitwise) and all orders that matter, and has no elimination in it.
 */
public final class ModelTest {
    private static int wrong = 0;
    private static long state = 12345;

    /** The same numbers in every run. */
    private static int pick(int bound) {
        state = (state * 6364136223846793005L + 1442695040888963407L);
        return (int) ((state >>> 33) % bound);
    }

    private static int odd(int set) {
        return Integer.bitCount(set) & 1;
    }

    private static final class Model {
        final int n;
        final List<int[]> list = new ArrayList<>();

        Model(int blocks) {
            n = Math.max(1, Math.min(8, blocks));
        }

        Model without(int symbol) {
            Model other = new Model(n);
            other.list.addAll(list);
            other.list.remove(symbol);
            return other;
        }

        Model with(int set, int value) {
            Model other = new Model(n);
            other.list.addAll(list);
            other.list.add(new int[] {set, value});
            return other;
        }

        int all() {
            return (1 << n) - 1;
        }

        boolean goodSet(int set) {
            return set >= 0 && set < (1 << n);
        }

        boolean solves(int bits, int plane) {
            for (int[] symbol : list) {
                if (odd(symbol[0] & bits) != ((symbol[1] >> plane) & 1)) {
                    return false;
                }
            }
            return true;
        }

        /** The number of the sum in all solutions, -2 if there is no such one. */
        int fixed(int set) {
            int number = 0;
            for (int plane = 0; plane < 8; plane++) {
                int seen = 0;
                for (int bits = 0; bits <= all(); bits++) {
                    if (solves(bits, plane)) {
                        seen |= 1 << odd(bits & set);
                    }
                }
                if (seen == 0 || seen == 3) {
                    return -2;
                }
                number |= (seen >> 1) << plane;
            }
            return number;
        }

        int receive(int set, int value) {
            if (!goodSet(set) || set == 0) return -1;
            if (value < 0 || value > 255) return -2;
            if (list.size() == 16) return -3;
            list.add(new int[] {set, value});
            return list.size() - 1;
        }

        int draw(int r, int value) {
            if (r < 0 || r > 9999) return -1;
            if (value < 0 || value > 255) return -2;
            if (list.size() == 16) return -3;
            list.add(new int[] {setOf(r), value});
            return setOf(r);
        }

        int lose(int symbol) {
            if (symbol < 0 || symbol >= list.size()) return -1;
            list.remove(symbol);
            return list.size();
        }

        int setOf(int r) {
            if (r < 0 || r > 9999) return -1;
            long x = r * 7919L + 104729L;
            long size = 1 + (x / 7) % 3;
            long[] three = {x % n, (x / n) % n, (x / ((long) n * n)) % n};
            int[] times = new int[n];
            for (int i = 0; i < size; i++) {
                times[(int) three[i]]++;
            }
            int set = 0;
            for (int b = 0; b < n; b++) {
                if (times[b] == 1 || times[b] == 3) {
                    set += 1 << b;
                }
            }
            return set == 0 ? 1 : set;
        }

        int consistent() {
            return fixed(0) == 0 ? 1 : 0;
        }

        /** The sums of symbols' sets are 2^rank many. */
        int rank() {
            boolean[] sum = new boolean[256];
            sum[0] = true;
            int count = 1;
            for (int[] symbol : list) {
                boolean[] next = sum.clone();
                for (int set = 0; set < 256; set++) {
                    if (sum[set] && !sum[set ^ symbol[0]]) {
                        next[set ^ symbol[0]] = true;
                        count++;
                    }
                }
                sum = next;
            }
            return Integer.numberOfTrailingZeros(count);
        }

        int known() {
            int known = 0;
            for (int b = 0; b < n; b++) {
                if (fixed(1 << b) >= 0) {
                    known |= 1 << b;
                }
            }
            return known;
        }

        int value(int block) {
            return block < 0 || block >= n ? -1 : fixed(1 << block);
        }

        int sumOf(int set) {
            return goodSet(set) ? fixed(set) : -1;
        }

        int peel(int start) {
            int done = start;
            boolean again = true;
            while (again) {
                again = false;
                for (int[] symbol : list) {
                    if (Integer.bitCount(symbol[0] & ~done) == 1) {
                        done |= symbol[0];
                        again = true;
                    }
                }
            }
            return done;
        }

        int isSeed(int set) {
            if (!goodSet(set)) return -1;
            return peel(set) == all() ? 1 : 0;
        }

        int seed() {
            for (int size = 0; size <= n; size++) {
                for (int set = 0; set <= all(); set++) {
                    if (Integer.bitCount(set) == size && isSeed(set) == 1) {
                        return set;
                    }
                }
            }
            throw new IllegalStateException("all blocks are a seed");
        }

        int spare() {
            int before = known();
            int count = 0;
            for (int i = 0; i < list.size(); i++) {
                int after = without(i).known();
                boolean smaller = after != before && (after & before) == after;
                if (!smaller) {
                    count++;
                }
            }
            return count;
        }

        int useful() {
            if (consistent() == 0) return -1;
            int before = known();
            boolean[] tried = new boolean[256];
            for (int r = 0; r <= 9999; r++) {
                int set = setOf(r);
                if (!tried[set] && helps(set, before)) {
                    return r;
                }
                tried[set] = true;
            }
            return -1;
        }

        boolean helps(int set, int before) {
            int fixedNumber = fixed(set);
            // Of a fixed sum just one value leaves the symbols consistent; of
            // another sum some values are tried.
            int[] values = fixedNumber >= 0 ? new int[] {fixedNumber} : new int[] {0, 255, 90};
            for (int value : values) {
                Model other = with(set, value);
                int after = other.known();
                if (other.consistent() == 1 && after != before && (after & before) == before) {
                    return true;
                }
            }
            return false;
        }
    }

    private static void due(String run, String call, int got, int want) {
        if (got != want) {
            wrong++;
            System.out.println(run + ": " + call + " answered " + got + ", due is " + want);
        }
    }

    private static void ask(String run, FountainDecoder x, Model m, boolean slow) {
        due(run, "blocks()", x.blocks(), m.n);
        due(run, "symbols()", x.symbols(), m.list.size());
        due(run, "consistent()", x.consistent(), m.consistent());
        due(run, "rank()", x.rank(), m.rank());
        due(run, "known()", x.known(), m.known());
        int block = pick(m.n + 2) - 1;
        due(run, "value(" + block + ")", x.value(block), m.value(block));
        int set = pick((1 << m.n) + 2) - 1;
        due(run, "sumOf(" + set + ")", x.sumOf(set), m.sumOf(set));
        due(run, "isSeed(" + set + ")", x.isSeed(set), m.isSeed(set));
        due(run, "peeled()", x.peeled(), m.peel(0));
        due(run, "seed()", x.seed(), m.seed());
        due(run, "seedSize()", x.seedSize(), Integer.bitCount(m.seed()));
        if (slow) {
            due(run, "spare()", x.spare(), m.spare());
            due(run, "useful()", x.useful(), m.useful());
        }
    }

    /** A hidden solution makes true symbols; some runs have wrong values among them. */
    private static void run(int number) {
        int blocks = 1 + number % 8;
        String run = "run " + number + " of " + blocks + " blocks";
        FountainDecoder x = new FountainDecoder(blocks);
        Model m = new Model(blocks);
        int[] hidden = new int[blocks];
        for (int b = 0; b < blocks; b++) {
            hidden[b] = pick(256);
        }
        int wrongIn = number % 3 == 0 ? 8 : 1000000;
        for (int step = 0; step < 24; step++) {
            String at = run + ", step " + step;
            int kind = pick(10);
            if (kind < 5) {
                int set = pick(1 << blocks) & (pick(2) == 0 ? -1 : pick(1 << blocks));
                int value = truth(set, hidden, wrongIn);
                due(at, "receive(" + set + ", " + value + ")", x.receive(set, value), m.receive(set, value));
            } else if (kind < 8) {
                int r = pick(10002) - 1;
                int value = truth(Math.max(0, m.setOf(r)), hidden, wrongIn);
                due(at, "draw(" + r + ", " + value + ")", x.draw(r, value), m.draw(r, value));
            } else {
                int symbol = pick(m.list.size() + 3) - 1;
                due(at, "lose(" + symbol + ")", x.lose(symbol), m.lose(symbol));
            }
            ask(at, x, m, step % 4 == 3);
        }
    }

    private static int truth(int set, int[] hidden, int wrongIn) {
        int value = 0;
        for (int b = 0; b < hidden.length; b++) {
            if (((set >> b) & 1) != 0) {
                value ^= hidden[b];
            }
        }
        return pick(wrongIn) == 0 ? value ^ (1 << pick(9)) : value;
    }

    private static void allSets() {
        for (int n = 1; n <= 8; n++) {
            FountainDecoder x = new FountainDecoder(n);
            Model m = new Model(n);
            for (int r = 0; r <= 9999; r++) {
                // An object is promised for 512 calls.
                if (r % 500 == 0) {
                    x = new FountainDecoder(n);
                }
                due("sets of " + n + " blocks", "setOf(" + r + ")", x.setOf(r), m.setOf(r));
            }
        }
    }

    public static void main(String[] args) {
        allSets();
        for (int number = 0; number < 240; number++) {
            run(number);
        }
        System.out.println(wrong == 0 ? "all answers are as the model's" : wrong + " answers are not as the model's");
        if (wrong != 0) {
            System.exit(1);
        }
    }
}
