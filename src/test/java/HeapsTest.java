/** Promises 1 to 3: a new object, heap and has. */
public final class HeapsTest {
    private HeapsTest() {
    }

    public static void main(String[] args) {
        newObjectIsEmpty();
        heapSetsOneAndTellsWhatItHad();
        wrongHeapsAreRefused();
        wrongCountsAreRefused();
        objectsAreApart();
        Check.finish();
    }

    private static void newObjectIsEmpty() {
        HeapGames x = new HeapGames();
        Check.dueHeaps("new object", x, 0, 0, 0);
        for (int game = 0; game < 8; game++) {
            Check.due("new object: moves(" + game + ")", x.moves(game), 0);
            Check.due("new object: won(" + game + ")", x.won(game), game == 1 ? 1 : 0);
        }
    }

    private static void heapSetsOneAndTellsWhatItHad() {
        for (int i = 0; i < 3; i++) {
            HeapGames x = Check.with(4, 5, 6);
            int before = 4 + i;
            for (int n = 0; n <= 15; n++) {
                String call = "heap(" + i + ", " + n + ")";
                Check.due(call, x.heap(i, n), before);
                Check.dueHeaps(call, x, i == 0 ? n : 4, i == 1 ? n : 5, i == 2 ? n : 6);
                before = n;
            }
            Check.due("heap(" + i + ", 0) after 15", x.heap(i, 0), 15);
            Check.due("heap(" + i + ", 0) again", x.heap(i, 0), 0);
        }
    }

    private static void wrongHeapsAreRefused() {
        HeapGames x = Check.with(1, 2, 3);
        for (int i : new int[] {Integer.MIN_VALUE, -2, -1, 3, 4, 1024, Integer.MAX_VALUE}) {
            Check.due("has(" + i + ")", x.has(i), Check.BAD_ARG);
            Check.due("heap(" + i + ", 7)", x.heap(i, 7), Check.BAD_ARG);
            Check.due("heap(" + i + ", 16)", x.heap(i, 16), Check.BAD_ARG);
            Check.dueHeaps("heap(" + i + ", 7)", x, 1, 2, 3);
        }
    }

    private static void wrongCountsAreRefused() {
        HeapGames x = Check.with(1, 2, 3);
        for (int i = 0; i < 3; i++) {
            for (int n : Check.FAR_OUT) {
                Check.due("heap(" + i + ", " + n + ")", x.heap(i, n), Check.BAD_ARG);
                Check.dueHeaps("heap(" + i + ", " + n + ")", x, 1, 2, 3);
            }
        }
    }

    private static void objectsAreApart() {
        HeapGames x = Check.with(1, 2, 3);
        HeapGames y = new HeapGames();
        y.heap(1, 9);
        Check.dueHeaps("x beside y", x, 1, 2, 3);
        Check.dueHeaps("y beside x", y, 0, 9, 0);
    }
}
