import java.util.List;

/** All promises on objects that are used for their whole 512 calls, in mixed order. */
public final class LongRunTest {
    private static final Rules[] RULES = new Rules[8];
    private static long state = 1;

    private LongRunTest() {
    }

    public static void main(String[] args) {
        for (int game = 0; game < 8; game++) {
            RULES[game] = new Rules(game);
        }
        for (int run = 0; run < 200; run++) {
            // Two objects in turn: neither knows of the other.
            HeapGames x = new HeapGames();
            HeapGames y = new HeapGames();
            int[] heapsOfX = new int[3];
            int[] heapsOfY = new int[3];
            for (int call = 0; call < 512; call++) {
                step("run " + run + ", call " + call + " of x: ", x, heapsOfX);
                step("run " + run + ", call " + call + " of y: ", y, heapsOfY);
            }
        }
        Check.finish();
    }

    /** The next of a fixed row of numbers from low to high. */
    private static int pick(int low, int high) {
        state = state * 6364136223846793005L + 1442695040888963407L;
        return low + (int) ((state >>> 33) % (high - low + 1));
    }

    /** Mostly from low to high, at times far outside. */
    private static int argument(int low, int high) {
        if (pick(0, 15) > 0) {
            return pick(low, high);
        }
        int[] far = Check.outside(low, high);
        return far[pick(0, far.length - 1)];
    }

    private static void step(String at, HeapGames x, int[] heaps) {
        int kind = pick(0, 8);
        if (kind <= 1) {
            setHeap(at, x, heaps);
        } else if (kind == 2) {
            int i = argument(-1, 3);
            Check.due(at + "has(" + i + ")", x.has(i), isHeap(i) ? heaps[i] : Check.BAD_ARG);
        } else if (kind == 3) {
            play(at, x, heaps);
        } else {
            ask(at, x, heaps, kind);
        }
    }

    private static boolean isHeap(int i) {
        return i >= 0 && i <= 2;
    }

    private static boolean isGame(int game) {
        return game >= 0 && game <= 7;
    }

    private static void setHeap(String at, HeapGames x, int[] heaps) {
        int i = argument(-1, 3);
        int n = argument(-1, 16);
        boolean fits = isHeap(i) && n >= 0 && n <= 15;
        Check.due(at + "heap(" + i + ", " + n + ")", x.heap(i, n), fits ? heaps[i] : Check.BAD_ARG);
        if (fits) {
            heaps[i] = n;
        }
    }

    private static int winningMove(int game, int i, int[] heaps) {
        Rules rules = RULES[game];
        List<Integer> winning = rules.winning(rules.start(heaps[0], heaps[1], heaps[2]));
        return i >= 0 && i < winning.size() ? winning.get(i) : Check.NONE;
    }

    private static void play(String at, HeapGames x, int[] heaps) {
        int game = argument(-1, 8);
        int i = argument(-1, 2);
        int want = Check.BAD_ARG;
        if (isGame(game) && game != 3 && game != 6) {
            want = winningMove(game, i, heaps);
            if (want != Check.NONE) {
                heaps[0] = want % 32;
                heaps[1] = want / 32 % 32;
                heaps[2] = want / 1024;
                want = 0;
            }
        }
        Check.due(at + "play(" + game + ", " + i + ")", x.play(game, i), want);
    }

    private static void ask(String at, HeapGames x, int[] heaps, int kind) {
        int game = argument(0, 7);
        int i = argument(-1, 3);
        int due = isGame(game) ? answer(game, i, heaps, kind) : Check.BAD_ARG;
        switch (kind) {
            case 4 -> Check.due(at + "won(" + game + ")", x.won(game), due);
            case 5 -> Check.due(at + "moves(" + game + ")", x.moves(game), due);
            case 6 -> Check.due(at + "winning(" + game + ")", x.winning(game), due);
            case 7 -> Check.due(at + "winningMove(" + game + ", " + i + ")", x.winningMove(game, i), due);
            default -> Check.due(at + "value(" + game + ")", x.value(game), due);
        }
    }

    private static int answer(int game, int i, int[] heaps, int kind) {
        Rules rules = RULES[game];
        int[] p = rules.start(heaps[0], heaps[1], heaps[2]);
        return switch (kind) {
            case 4 -> rules.won(p) ? 1 : 0;
            case 5 -> rules.moves(p).size();
            case 6 -> rules.winning(p).size();
            case 7 -> winningMove(game, i, heaps);
            default -> game == 0 || game == 7 ? rules.value(p) : Check.BAD_ARG;
        };
    }
}
