/** Eight games with heaps, who wins them, and by which moves. */
public final class HeapGames {
    public static final int BAD_ARG = -1;
    public static final int NONE = -4;

    private static final int NIM = 0;
    private static final int MISERE_NIM = 1;
    private static final int TWO_HEAP_NIM = 2;
    private static final int STAIRCASE = 3;
    private static final int WYTHOFF = 4;
    private static final int EUCLID = 5;
    private static final int FIBONACCI = 6;
    private static final int ONE_TO_THREE = 7;

    private static final int HEAPS = 3;
    private static final int MOST_COUNTERS = 15;
    private static final int MOST_IN_PILE = 60;

    // What one counter of each heap is worth in the number of a position.
    private static final int UNIT_0 = 1;
    private static final int UNIT_1 = 32;
    private static final int UNIT_2 = 1024;

    // Game 2 has the most moves: 3 * 15 from one heap, 3 * 15 * 15 from two.
    private static final int MOST_MOVES = 720;

    private final int[] heaps = new int[HEAPS];

    // The list of moves is made anew by each call that needs one.
    private final int[] list = new int[MOST_MOVES];
    private int listed = 0;

    public HeapGames() {
    }

    public int heap(int i, int n) {
        if (!isHeap(i) || n < 0 || n > MOST_COUNTERS) {
            return BAD_ARG;
        }
        int before = heaps[i];
        heaps[i] = n;
        return before;
    }

    public int has(int i) {
        return isHeap(i) ? heaps[i] : BAD_ARG;
    }

    public int won(int game) {
        if (!isGame(game)) {
            return BAD_ARG;
        }
        return isWonNow(game) ? 1 : 0;
    }

    public int moves(int game) {
        if (!isGame(game)) {
            return BAD_ARG;
        }
        listMoves(game);
        return listed;
    }

    public int winning(int game) {
        if (!isGame(game)) {
            return BAD_ARG;
        }
        listWinningMoves(game);
        return listed;
    }

    public int winningMove(int game, int i) {
        if (!isGame(game)) {
            return BAD_ARG;
        }
        listWinningMoves(game);
        return listedAbove(i);
    }

    public int value(int game) {
        // The values of single heaps add without carry. One heap's value is
        // what it has, or the rest of that by 4 if a move takes three at most.
        int sum = heaps[0] ^ heaps[1] ^ heaps[2];
        if (game == NIM) {
            return sum;
        }
        return game == ONE_TO_THREE ? sum & 3 : BAD_ARG;
    }

    public int play(int game, int i) {
        if (!isGame(game) || game == STAIRCASE || game == FIBONACCI) {
            return BAD_ARG;
        }
        listWinningMoves(game);
        int number = listedAbove(i);
        if (number == NONE) {
            return NONE;
        }
        heaps[0] = heap0Of(number);
        heaps[1] = heap1Of(number);
        heaps[2] = heap2Of(number);
        return isWonNow(game) ? 1 : 0;
    }

    private static boolean isHeap(int i) {
        return i >= 0 && i < HEAPS;
    }

    private static boolean isGame(int game) {
        return game >= NIM && game <= ONE_TO_THREE;
    }

    private static int lesserOf(int a, int b) {
        return a < b ? a : b;
    }

    private static int heap0Of(int number) {
        return number % UNIT_1;
    }

    private static int heap1Of(int number) {
        return number % UNIT_2 / UNIT_1;
    }

    private static int heap2Of(int number) {
        return number / UNIT_2;
    }

    private int numberNow() {
        return heaps[0] * UNIT_0 + heaps[1] * UNIT_1 + heaps[2] * UNIT_2;
    }

    /** The one heap of game 6. */
    private int pile() {
        int counters = heaps[0] + 16 * heaps[1];
        return lesserOf(counters, MOST_IN_PILE);
    }

    // ---- The moves ----

    /**
     * Lists the numbers of all moves. No two moves of a game make the same of
     * the heaps, and none makes a heap of 32 or more, so no number comes twice.
     */
    private void listMoves(int game) {
        listed = 0;
        switch (game) {
            case TWO_HEAP_NIM:
                listOneHeapMoves(MOST_COUNTERS);
                listTwoHeapMoves();
                break;
            case STAIRCASE:
                listStaircaseMoves();
                break;
            case WYTHOFF:
                listWythoffMoves();
                break;
            case EUCLID:
                listEuclidMoves();
                break;
            case FIBONACCI:
                listFibonacciMoves();
                break;
            case ONE_TO_THREE:
                listOneHeapMoves(3);
                break;
            default:
                listOneHeapMoves(MOST_COUNTERS);
                break;
        }
    }

    /** Lists from - step, from - 2 * step and so on, as many as count says. */
    private void listRun(int from, int step, int count) {
        for (int k = 1; k <= count && listed < MOST_MOVES; k++) {
            list[listed] = from - k * step;
            listed++;
        }
    }

    private void listOneHeapMoves(int most) {
        int now = numberNow();
        int most0 = lesserOf(heaps[0], most);
        int most1 = lesserOf(heaps[1], most);
        int most2 = lesserOf(heaps[2], most);
        listRun(now, UNIT_0, most0);
        listRun(now, UNIT_1, most1);
        listRun(now, UNIT_2, most2);
    }

    private void listTwoHeapMoves() {
        int now = numberNow();
        for (int k = 1; k <= heaps[0]; k++) {
            listRun(now - k * UNIT_0, UNIT_1, heaps[1]);
            listRun(now - k * UNIT_0, UNIT_2, heaps[2]);
        }
        for (int k = 1; k <= heaps[1]; k++) {
            listRun(now - k * UNIT_1, UNIT_2, heaps[2]);
        }
    }

    private void listStaircaseMoves() {
        int now = numberNow();
        listRun(now, UNIT_0, heaps[0]);
        listRun(now, UNIT_1 - UNIT_0, heaps[1]);
        listRun(now, UNIT_2 - UNIT_1, heaps[2]);
    }

    private void listWythoffMoves() {
        int now = numberNow();
        int most = lesserOf(heaps[0], heaps[1]);
        listRun(now, UNIT_0, heaps[0]);
        listRun(now, UNIT_1, heaps[1]);
        listRun(now, UNIT_0 + UNIT_1, most);
    }

    private void listEuclidMoves() {
        if (heaps[0] == 0 || heaps[1] == 0) {
            return;
        }
        // The quotient is 0 for the smaller heap, from which nothing is taken.
        int now = numberNow();
        listRun(now, heaps[1] * UNIT_0, heaps[0] / heaps[1]);
        listRun(now, heaps[0] * UNIT_1, heaps[1] / heaps[0]);
    }

    private void listFibonacciMoves() {
        int counters = pile();
        int most = lesserOf(counters, heaps[2]);
        listRun(0, -1, most);
    }

    private void listWinningMoves(int game) {
        listMoves(game);
        int kept = 0;
        for (int k = 0; k < listed; k++) {
            if (!isWonAfter(game, list[k])) {
                list[kept] = list[k];
                kept++;
            }
        }
        listed = kept;
    }

    /** The listed number that is greater than just i others, or NONE. */
    private int listedAbove(int i) {
        for (int k = 0; k < listed; k++) {
            int lesser = 0;
            for (int other = 0; other < listed; other++) {
                if (list[other] < list[k]) {
                    lesser++;
                }
            }
            if (lesser == i) {
                return list[k];
            }
        }
        return NONE;
    }

    // ---- Who wins ----

    private boolean isWonNow(int game) {
        if (game == FIBONACCI) {
            int counters = pile();
            return isFibonacciWon(counters, heaps[2]);
        }
        return isWon(game, heaps[0], heaps[1], heaps[2]);
    }

    /** Whether the other player wins after the move with this number. */
    private boolean isWonAfter(int game, int number) {
        if (game == FIBONACCI) {
            int left = pile() - number;
            return isFibonacciWon(left, 2 * number);
        }
        int a = heap0Of(number);
        int b = heap1Of(number);
        int c = heap2Of(number);
        return isWon(game, a, b, c);
    }

    private static boolean isWon(int game, int a, int b, int c) {
        switch (game) {
            case MISERE_NIM:
                return isMisereWon(a, b, c);
            case TWO_HEAP_NIM:
                // A move leaves a heap as it is, so it can't keep all three
                // equal; two at most have more than the least, so a move can
                // make all three equal.
                return a != b || b != c;
            case STAIRCASE:
                // What a player sends from heap 1 to heap 0 the other can take
                // away at once: only heaps 0 and 2 count, as in game 0.
                return a != c;
            case WYTHOFF:
                return isWythoffWon(a, b);
            case EUCLID:
                return isEuclidWon(a, b);
            case ONE_TO_THREE:
                return ((a ^ b ^ c) & 3) != 0;
            default:
                return (a ^ b ^ c) != 0;
        }
    }

    private static boolean isMisereWon(int a, int b, int c) {
        // As in game 0 while a heap has two or more: who reduces the last such
        // heap chooses whether an odd or an even number of ones is left.
        boolean onlyOnes = a <= 1 && b <= 1 && c <= 1;
        boolean isNimWon = (a ^ b ^ c) != 0;
        return isNimWon != onlyOnes;
    }

    private static boolean isWythoffWon(int a, int b) {
        // Lost are the pairs whose lesser heap is the whole part of their
        // difference times the golden ratio.
        int lesser = lesserOf(a, b);
        int difference = a + b - 2 * lesser;
        return isOverGolden(lesser, difference) || !isOverGolden(lesser + 1, difference);
    }

    private static boolean isEuclidWon(int a, int b) {
        // Won are equal heaps, and those whose quotient is over the golden ratio.
        int lesser = lesserOf(a, b);
        int greater = a + b - lesser;
        if (lesser == 0) {
            return false;
        }
        return greater == lesser || isOverGolden(greater, lesser);
    }

    /** Whether x is more than the golden ratio times y, without fractions. */
    private static boolean isOverGolden(int x, int y) {
        return x * x > y * (x + y);
    }

    private static boolean isFibonacciWon(int counters, int most) {
        // Won if a move may take the least of the Fibonacci numbers, no two of
        // them neighbours, whose sum the heap is. 55 is the greatest up to 60.
        int rest = counters;
        int part = 55;
        int next = 34;
        int least = 0;
        for (int k = 0; k < 9; k++) {
            if (rest >= part) {
                rest -= part;
                least = part;
            }
            int afterNext = part - next;
            part = next;
            next = afterNext;
        }
        return least > 0 && least <= most;
    }
}
