import java.util.Set;
import java.util.TreeSet;

/** Counts the answers that are not as due; each test's main ends with finish. */
final class Check {
    static final int BAD_ARG = -1;
    static final int NONE = -4;

    /** Numbers that are no game, no heap and no count of counters. */
    static final int[] FAR_OUT = {Integer.MIN_VALUE, -1024, -4, -1, 16, 1024, Integer.MAX_VALUE};

    /** Numbers that are no game: 8 lies just outside. */
    static final int[] NO_GAMES = {Integer.MIN_VALUE, -1024, -4, -1, 8, 9, 16, 1024, Integer.MAX_VALUE};

    private static final int MOST_ROWS = 20;
    private static final long MOST_MILLISECONDS = 300_000;

    private static int looked = 0;
    private static int wrong = 0;
    private static int sentences = 0;
    private static int lookedBefore = 0;
    private static int wrongBefore = 0;
    private static String sentence = "";

    static {
        failIfNoEndComes();
    }

    private Check() {
    }

    /** A call that never ends must fail the test, not hold it up for ever. */
    private static void failIfNoEndComes() {
        Thread watch = new Thread(() -> {
            try {
                Thread.sleep(MOST_MILLISECONDS);
            } catch (InterruptedException e) {
                return;
            }
            System.out.println(sentence + "the test did not end in time");
            Runtime.getRuntime().halt(1);
        });
        watch.setDaemon(true);
        watch.start();
    }

    static void due(String call, long got, long want) {
        looked++;
        if (got != want) {
            wrong++;
            // A broken rule may fail at every position: the first rows tell enough.
            if (wrong - wrongBefore <= MOST_ROWS) {
                System.out.println(sentence + call + " answered " + got + ", due is " + want);
            }
        }
    }

    /** From here on the answers belong to this sentence of the document. */
    static void sentence(String place, String words) {
        endSentence();
        sentences++;
        sentence = place + ", \"" + words + "\": ";
    }

    /** A sentence under which nothing was looked at has no test. */
    private static void endSentence() {
        if (sentences > 0 && looked == lookedBefore) {
            due("answers looked at", 0, 1);
        }
        lookedBefore = looked;
        wrongBefore = wrong;
    }

    /**
     * Numbers that are not from low to high: the least and the greatest ints,
     * those just outside, and those that a mask, a rest or a narrower type
     * would turn into one from low to high.
     */
    static int[] outside(int low, int high) {
        Set<Integer> all = new TreeSet<>();
        for (int near = low - 2; near <= high + 2; near++) {
            all.add(near);
            all.add(-near);
            all.add(~near);
            all.add(Integer.MAX_VALUE - near);
            all.add(Integer.MIN_VALUE + near);
            for (int bit = 0; bit < 32; bit++) {
                all.add(near + (1 << bit));
                all.add(near - (1 << bit));
            }
            all.add(near + 10);
            all.add(near + 100);
            all.add(near + 1000);
        }
        all.add(NONE);
        all.add(BAD_ARG);
        all.removeIf(n -> n >= low && n <= high);
        return all.stream().mapToInt(n -> n).toArray();
    }

    /** A new object whose heaps have a, b and c counters. */
    static HeapGames with(int a, int b, int c) {
        HeapGames x = new HeapGames();
        x.heap(0, a);
        x.heap(1, b);
        x.heap(2, c);
        return x;
    }

    static void dueHeaps(String after, HeapGames x, int a, int b, int c) {
        due(after + ": has(0)", x.has(0), a);
        due(after + ": has(1)", x.has(1), b);
        due(after + ": has(2)", x.has(2), c);
    }

    /** What a game answers: won, moves, winning, every winning move, and NONE beside them. */
    static void dueGame(int game, HeapGames x, int won, int moves, int... winning) {
        String at = "heaps " + x.has(0) + " " + x.has(1) + " " + x.has(2) + ": ";
        due(at + "won(" + game + ")", x.won(game), won);
        due(at + "moves(" + game + ")", x.moves(game), moves);
        due(at + "winning(" + game + ")", x.winning(game), winning.length);
        for (int i = 0; i < winning.length; i++) {
            due(at + "winningMove(" + game + ", " + i + ")", x.winningMove(game, i), winning[i]);
        }
        for (int i : new int[] {winning.length, 1000, Integer.MAX_VALUE, -1, Integer.MIN_VALUE}) {
            due(at + "winningMove(" + game + ", " + i + ")", x.winningMove(game, i), NONE);
        }
    }

    static int number(int a, int b, int c) {
        return a + 32 * b + 1024 * c;
    }

    /** Every answer is the one of a new object with these heaps: nothing else has changed. */
    static void dueAsNew(String after, HeapGames x, int a, int b, int c) {
        int before = wrong;
        dueHeaps(after, x, a, b, c);
        if (wrong > before) {
            return;
        }
        HeapGames fresh = with(a, b, c);
        for (int game = 0; game < 8; game++) {
            String call = after + ", game " + game + ": ";
            due(call + "won", x.won(game), fresh.won(game));
            due(call + "moves", x.moves(game), fresh.moves(game));
            due(call + "winning", x.winning(game), fresh.winning(game));
            due(call + "winningMove 0", x.winningMove(game, 0), fresh.winningMove(game, 0));
            due(call + "winningMove 1", x.winningMove(game, 1), fresh.winningMove(game, 1));
            due(call + "value", x.value(game), fresh.value(game));
        }
    }

    static void finish() {
        endSentence();
        if (sentences > 0) {
            System.out.print(sentences + " sentences, ");
        }
        System.out.println(looked + " answers looked at, " + wrong + " not as due");
        if (wrong != 0 || looked == 0) {
            System.exit(1);
        }
    }
}
