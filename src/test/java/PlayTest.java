/** Promises 9 and 10: play, and the order of its refusals. */
public final class PlayTest {
    private PlayTest() {
    }

    public static void main(String[] args) {
        playSetsTheHeaps();
        everyWinningMoveCanBePlayed();
        noSuchMoveChangesNothing();
        gamesWithoutPlayAreRefusedFirst();
        playedToTheEnd();
        Check.finish();
    }

    private static void playOne(int game, int[] from, int[] to) {
        HeapGames x = Check.with(from[0], from[1], from[2]);
        String call = "heaps " + from[0] + " " + from[1] + " " + from[2] + ": play(" + game + ", 0)";
        Check.due(call, x.play(game, 0), 0);
        Check.dueHeaps(call, x, to[0], to[1], to[2]);
    }

    private static void playSetsTheHeaps() {
        playOne(0, new int[] {8, 13, 4}, new int[] {8, 12, 4});
        playOne(1, new int[] {1, 1, 2}, new int[] {1, 1, 1});
        playOne(2, new int[] {1, 2, 2}, new int[] {1, 1, 1});
        playOne(4, new int[] {5, 1, 8}, new int[] {2, 1, 8});
        playOne(5, new int[] {15, 2, 1}, new int[] {3, 2, 1});
        playOne(7, new int[] {0, 0, 7}, new int[] {0, 0, 4});
    }

    private static void everyWinningMoveCanBePlayed() {
        int[][] after = {{15, 15, 0}, {15, 0, 15}, {0, 15, 15}};
        for (int i = 0; i < 3; i++) {
            HeapGames x = Check.with(15, 15, 15);
            Check.due("play(0, " + i + ")", x.play(0, i), 0);
            Check.dueHeaps("play(0, " + i + ")", x, after[i][0], after[i][1], after[i][2]);
        }
    }

    private static void noSuchMoveChangesNothing() {
        for (int game : new int[] {0, 1, 2, 4, 5, 7}) {
            for (int i : new int[] {Integer.MIN_VALUE, -1, 3, 1000, Integer.MAX_VALUE}) {
                HeapGames x = Check.with(15, 15, 15);
                String call = "play(" + game + ", " + i + ")";
                Check.due(call, x.play(game, i), Check.NONE);
                Check.dueHeaps(call, x, 15, 15, 15);
            }
        }
        HeapGames empty = new HeapGames();
        Check.due("empty: play(1, 0)", empty.play(1, 0), Check.NONE);
    }

    private static void gamesWithoutPlayAreRefusedFirst() {
        for (int game : new int[] {3, 6}) {
            for (int i : new int[] {-1, 0, 1, 1000}) {
                String call = "play(" + game + ", " + i + ")";
                HeapGames won = Check.with(5, 0, 9);
                Check.due(call + " where it is won", won.play(game, i), Check.BAD_ARG);
                Check.dueHeaps(call, won, 5, 0, 9);
                HeapGames empty = new HeapGames();
                Check.due(call + " where it is lost", empty.play(game, i), Check.BAD_ARG);
            }
        }
    }

    private static void playedToTheEnd() {
        HeapGames x = Check.with(1, 2, 4);
        Check.due("play(0, 0)", x.play(0, 0), 0);
        Check.dueHeaps("play(0, 0)", x, 1, 2, 3);
        Check.due("play(0, 0) when lost", x.play(0, 0), Check.NONE);
        x.heap(2, 0);
        Check.due("second play(0, 0)", x.play(0, 0), 0);
        Check.dueHeaps("second play(0, 0)", x, 1, 1, 0);
        x.heap(0, 0);
        Check.due("third play(0, 0)", x.play(0, 0), 0);
        Check.dueHeaps("third play(0, 0)", x, 0, 0, 0);
    }
}
