import java.util.List;

/** All promises on objects that are used for their whole 512 calls, in mixed order. */
public final class LongRunTest {
    private static final Rules[] RULES = new Rules[8];
    private static long state = 1;

    private LongRunTest() {
    }

    public static void main(String[] args) {
        for (int game = 0; game < 8; game++) {
            RULES[game] = new Rules(game);
        }
        for (int run = 0; run < 200; run++) {
            HeapGames x = new HeapGames();
            int[] heaps = new int[3];
            for (int call = 0; call < 512; call++) {
                step("run " + run + ", call " + call + ": ", x, heaps);
            }
        }
        Check.finish();
    }

    /** The next of a fixed row of numbers from low to high. */
    private static int pick(int low, int high) {
        state = state * 6364136223846793005L + 1442695040888963407L;
        return low + (int) ((state >>> 33) % (high - low + 1));
    }

    private static void step(String at, HeapGames x, int[] heaps) {
        int kind = pick(0, 8);
        if (kind <= 1) {
            setHeap(at, x, heaps);
        } else if (kind == 2) {
            int i = pick(-1, 3);
            Check.due(at + "has(" + i + ")", x.has(i), isHeap(i) ? heaps[i] : Check.BAD_ARG);
        } else if (kind == 3) {
            play(at, x, heaps);
        } else {
            ask(at, x, heaps, kind);
        }
    }

    private static boolean isHeap(int i) {
        return i >= 0 && i <= 2;
    }

    private static void setHeap(String at, HeapGames x, int[] heaps) {
        int i = pick(-1, 3);
        int n = pick(-1, 16);
        boolean fits = isHeap(i) && n >= 0 && n <= 15;
        Check.due(at + "heap(" + i + ", " + n + ")", x.heap(i, n), fits ? heaps[i] : Check.BAD_ARG);
        if (fits) {
            heaps[i] = n;
        }
    }

    private static int winningMove(int game, int i, int[] heaps) {
        Rules rules = RULES[game];
        List<Integer> winning = rules.winning(rules.start(heaps[0], heaps[1], heaps[2]));
        return i >= 0 && i < winning.size() ? winning.get(i) : Check.NONE;
    }

    private static void play(String at, HeapGames x, int[] heaps) {
        int game = pick(-1, 8);
        int i = pick(-1, 2);
        int want = Check.BAD_ARG;
        if (game >= 0 && game <= 7 && game != 3 && game != 6) {
            want = winningMove(game, i, heaps);
            if (want != Check.NONE) {
                heaps[0] = want % 32;
                heaps[1] = want / 32 % 32;
                heaps[2] = want / 1024;
                want = 0;
            }
        }
        Check.due(at + "play(" + game + ", " + i + ")", x.play(game, i), want);
    }

    private static void ask(String at, HeapGames x, int[] heaps, int kind) {
        int game = pick(0, 7);
        Rules rules = RULES[game];
        int[] p = rules.start(heaps[0], heaps[1], heaps[2]);
        if (kind == 4) {
            Check.due(at + "won(" + game + ")", x.won(game), rules.won(p) ? 1 : 0);
        } else if (kind == 5) {
            Check.due(at + "moves(" + game + ")", x.moves(game), rules.moves(p).size());
        } else if (kind == 6) {
            Check.due(at + "winning(" + game + ")", x.winning(game), rules.winning(p).size());
        } else if (kind == 7) {
            int i = pick(-1, 3);
            Check.due(at + "winningMove(" + game + ", " + i + ")", x.winningMove(game, i), winningMove(game, i, heaps));
        } else {
            boolean has = game == 0 || game == 7;
            Check.due(at + "value(" + game + ")", x.value(game), has ? rules.value(p) : Check.BAD_ARG);
        }
    }
}
