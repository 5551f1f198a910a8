/** Counts the answers that are not as due; each test's main ends with finish. */
final class Check {
    static final int BAD_ARG = -1;
    static final int NONE = -4;

    /** Numbers that are no game, no heap and no count of counters. */
    static final int[] FAR_OUT = {Integer.MIN_VALUE, -1024, -4, -1, 16, 1024, Integer.MAX_VALUE};

    /** Numbers that are no game: 8 lies just outside. */
    static final int[] NO_GAMES = {Integer.MIN_VALUE, -1024, -4, -1, 8, 9, 16, 1024, Integer.MAX_VALUE};

    private static int looked = 0;
    private static int wrong = 0;

    private Check() {
    }

    static void due(String call, long got, long want) {
        looked++;
        if (got != want) {
            wrong++;
            // A broken rule may fail at every position: the first rows tell enough.
            if (wrong <= 20) {
                System.out.println(call + " answered " + got + ", due is " + want);
            }
        }
    }

    /** A new object whose heaps have a, b and c counters. */
    static HeapGames with(int a, int b, int c) {
        HeapGames x = new HeapGames();
        x.heap(0, a);
        x.heap(1, b);
        x.heap(2, c);
        return x;
    }

    static void dueHeaps(String after, HeapGames x, int a, int b, int c) {
        due(after + ": has(0)", x.has(0), a);
        due(after + ": has(1)", x.has(1), b);
        due(after + ": has(2)", x.has(2), c);
    }

    static void finish() {
        System.out.println(looked + " answers looked at, " + wrong + " not as due");
        if (wrong != 0 || looked == 0) {
            System.exit(1);
        }
    }
}
