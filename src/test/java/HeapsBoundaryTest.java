/** The boundary cases that 'Terms' and promises 1 to 3 name for the heaps. */
public final class HeapsBoundaryTest {
    private static final int[][] POSITIONS = {{0, 0, 0}, {1, 2, 3}, {15, 0, 15}, {15, 15, 15}};

    private HeapsBoundaryTest() {
    }

    public static void main(String[] args) {
        heapsHoldNoneToFifteen();
        thereAreHeapsZeroToTwo();
        newHeapsAreEmpty();
        heapHasWhatItWasGiven();
        wrongHeapIsRefused();
        wrongCountIsRefused();
        heapAnswersWhatItHad();
        hasAnswersCounters();
        hasRefusesWrongHeaps();
        Check.finish();
    }

    private static void heapsHoldNoneToFifteen() {
        Check.sentence("Terms", "There are three HEAPS of 0 to 15 counters");
        for (int i = 0; i < 3; i++) {
            HeapGames x = new HeapGames();
            Check.due("heap(" + i + ", 15)", x.heap(i, 15), 0);
            Check.due("has(" + i + ")", x.has(i), 15);
            Check.due("heap(" + i + ", 16)", x.heap(i, 16), Check.BAD_ARG);
            Check.due("has(" + i + ")", x.has(i), 15);
            Check.due("heap(" + i + ", 14)", x.heap(i, 14), 15);
            Check.due("heap(" + i + ", 1)", x.heap(i, 1), 14);
            Check.due("heap(" + i + ", 0)", x.heap(i, 0), 1);
            Check.due("has(" + i + ")", x.has(i), 0);
            Check.due("heap(" + i + ", -1)", x.heap(i, -1), Check.BAD_ARG);
            Check.due("has(" + i + ")", x.has(i), 0);
        }
        HeapGames full = Check.with(15, 15, 15);
        Check.dueHeaps("all three full", full, 15, 15, 15);
    }

    private static void thereAreHeapsZeroToTwo() {
        Check.sentence("Terms", "heaps 0, 1 and 2");
        HeapGames x = new HeapGames();
        int[] due = {Check.BAD_ARG, 0, 0, 0, Check.BAD_ARG};
        for (int i = -1; i <= 3; i++) {
            Check.due("has(" + i + ")", x.has(i), due[i + 1]);
            Check.due("heap(" + i + ", 9)", x.heap(i, 9), due[i + 1]);
        }
        Check.dueHeaps("after heap(-1..3, 9)", x, 9, 9, 9);
    }

    private static void newHeapsAreEmpty() {
        Check.sentence("Promise 1", "All heaps are empty.");
        Check.dueAsNew("new object", new HeapGames(), 0, 0, 0);
        for (int i = 0; i < 3; i++) {
            Check.due("first heap(" + i + ", 4)", new HeapGames().heap(i, 4), 0);
        }
        HeapGames used = Check.with(15, 15, 15);
        Check.dueHeaps("new object beside a used one", new HeapGames(), 0, 0, 0);
        Check.dueHeaps("used object beside a new one", used, 15, 15, 15);
        HeapGames x = new HeapGames();
        for (int game = 0; game < 8; game++) {
            Check.due("new object: moves(" + game + ")", x.moves(game), 0);
        }
    }

    private static void heapHasWhatItWasGiven() {
        Check.sentence("Promise 2", "Heap i has n counters then.");
        for (int i = 0; i < 3; i++) {
            for (int from : new int[] {0, 1, 7, 15}) {
                for (int n = 0; n <= 15; n++) {
                    HeapGames x = Check.with(from, from, from);
                    x.heap(i, n);
                    String call = "all " + from + ": heap(" + i + ", " + n + ")";
                    Check.dueAsNew(call, x, i == 0 ? n : from, i == 1 ? n : from, i == 2 ? n : from);
                }
            }
        }
    }

    private static void wrongHeapIsRefused() {
        Check.sentence("Promise 2", "BAD_ARG if i is not 0 to 2");
        for (int[] p : POSITIONS) {
            for (int i : Check.outside(0, 2)) {
                HeapGames x = Check.with(p[0], p[1], p[2]);
                for (int n : new int[] {Integer.MIN_VALUE, -1, 0, 7, 15, 16, Integer.MAX_VALUE}) {
                    Check.due("heap(" + i + ", " + n + ")", x.heap(i, n), Check.BAD_ARG);
                }
                Check.dueAsNew("after heap(" + i + ", ..)", x, p[0], p[1], p[2]);
            }
        }
    }

    private static void wrongCountIsRefused() {
        Check.sentence("Promise 2", "BAD_ARG if [...] n not 0 to 15");
        for (int[] p : POSITIONS) {
            for (int n : Check.outside(0, 15)) {
                HeapGames x = Check.with(p[0], p[1], p[2]);
                for (int i = -1; i <= 3; i++) {
                    Check.due("heap(" + i + ", " + n + ")", x.heap(i, n), Check.BAD_ARG);
                }
                Check.dueAsNew("after heap(.., " + n + ")", x, p[0], p[1], p[2]);
            }
        }
    }

    private static void heapAnswersWhatItHad() {
        Check.sentence("Promise 2", "Otherwise how many it had.");
        for (int i = 0; i < 3; i++) {
            for (int had = 0; had <= 15; had++) {
                for (int n = 0; n <= 15; n++) {
                    HeapGames x = new HeapGames();
                    x.heap(i, had);
                    Check.due("heap(" + i + ", " + n + ") on " + had, x.heap(i, n), had);
                }
            }
        }
        HeapGames played = Check.with(15, 9, 0);
        played.play(0, 0);
        Check.due("heap(0, 3) after play", played.heap(0, 3), 9);
        HeapGames refused = Check.with(4, 5, 6);
        refused.heap(1, 16);
        Check.due("heap(1, 0) after a refused heap(1, 16)", refused.heap(1, 0), 5);
    }

    private static void hasAnswersCounters() {
        Check.sentence("Promise 3", "How many counters heap i has");
        HeapGames x = Check.with(0, 15, 1);
        Check.dueHeaps("0 15 1", x, 0, 15, 1);
        Check.dueHeaps("0 15 1, asked again", x, 0, 15, 1);
        Check.dueAsNew("after has", x, 0, 15, 1);
    }

    private static void hasRefusesWrongHeaps() {
        Check.sentence("Promise 3", "BAD_ARG if i is not 0 to 2.");
        for (int[] p : POSITIONS) {
            for (int i : Check.outside(0, 2)) {
                HeapGames x = Check.with(p[0], p[1], p[2]);
                Check.due("has(" + i + ")", x.has(i), Check.BAD_ARG);
                Check.dueAsNew("after has(" + i + ")", x, p[0], p[1], p[2]);
            }
        }
    }
}
