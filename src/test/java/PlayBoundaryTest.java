/** The boundary cases that promises 9 and 10 name. */
public final class PlayBoundaryTest {
    private static final int[] PLAYED = {0, 1, 2, 4, 5, 7};
    private static final int[][] POSITIONS = {
        {0, 0, 0}, {1, 0, 0}, {0, 0, 15}, {1, 1, 1}, {3, 5, 9}, {12, 3, 15}, {15, 0, 0}, {15, 15, 15}};

    private PlayBoundaryTest() {
    }

    public static void main(String[] args) {
        everyWinningMoveIsPlayed();
        heapsOutOfTheGameStay();
        gamesThreeAndSixAreRefused();
        noneIfThereIsNone();
        noneAtTheEnd();
        alwaysZero();
        badArgIsTestedBeforeNone();
        Check.finish();
    }

    private static void playOne(int game, int i, int[] from, int... to) {
        HeapGames x = Check.with(from[0], from[1], from[2]);
        String call = "heaps " + from[0] + " " + from[1] + " " + from[2] + ": play(" + game + ", " + i + ")";
        Check.due(call, x.play(game, i), 0);
        Check.dueAsNew(call, x, to[0], to[1], to[2]);
    }

    private static void everyWinningMoveIsPlayed() {
        Check.sentence("Promise 9", "The heaps become what the winning move with i lesser ones makes of them");
        playOne(0, 0, new int[] {15, 15, 15}, 15, 15, 0);
        playOne(0, 1, new int[] {15, 15, 15}, 15, 0, 15);
        playOne(0, 2, new int[] {15, 15, 15}, 0, 15, 15);
        playOne(0, 0, new int[] {0, 0, 15}, 0, 0, 0);
        playOne(1, 0, new int[] {0, 0, 15}, 0, 0, 1);
        playOne(1, 0, new int[] {1, 1, 0}, 1, 0, 0);
        playOne(1, 1, new int[] {1, 1, 0}, 0, 1, 0);
        playOne(2, 0, new int[] {15, 0, 15}, 0, 0, 0);
        playOne(2, 0, new int[] {15, 14, 15}, 14, 14, 14);
        playOne(4, 0, new int[] {15, 15, 0}, 0, 0, 0);
        playOne(4, 1, new int[] {15, 15, 0}, 15, 9, 0);
        playOne(4, 2, new int[] {15, 15, 0}, 9, 15, 0);
        playOne(5, 0, new int[] {15, 15, 0}, 15, 0, 0);
        playOne(5, 1, new int[] {15, 15, 0}, 0, 15, 0);
        playOne(5, 0, new int[] {15, 1, 0}, 0, 1, 0);
        playOne(7, 0, new int[] {15, 15, 15}, 15, 15, 12);
        playOne(7, 2, new int[] {15, 15, 15}, 12, 15, 15);
        playOne(7, 0, new int[] {0, 3, 0}, 0, 0, 0);
    }

    private static void heapsOutOfTheGameStay() {
        Check.sentence("Terms, games 4 and 5", "with heaps 0 and 1 alone (play leaves heap 2)");
        for (int c = 0; c <= 15; c++) {
            playOne(4, 0, new int[] {1, 0, c}, 0, 0, c);
            playOne(4, 0, new int[] {15, 15, c}, 0, 0, c);
            playOne(5, 1, new int[] {15, 15, c}, 0, 15, c);
        }
    }

    private static void gamesThreeAndSixAreRefused() {
        Check.sentence("Promise 9", "games 0, 1, 2, 4, 5 and 7; BAD_ARG for games 3 and 6");
        for (int game : new int[] {3, 6}) {
            for (int at = 0; at < 4096; at++) {
                int a = at % 16;
                int b = at / 16 % 16;
                int c = at / 256;
                HeapGames x = Check.with(a, b, c);
                String call = "heaps " + a + " " + b + " " + c + ": play(" + game + ", 0)";
                Check.due(call, x.play(game, 0), Check.BAD_ARG);
                Check.dueHeaps(call, x, a, b, c);
            }
            for (int[] p : POSITIONS) {
                HeapGames x = Check.with(p[0], p[1], p[2]);
                Check.due("play(" + game + ", 0)", x.play(game, 0), Check.BAD_ARG);
                Check.due("play(" + game + ", 1)", x.play(game, 1), Check.BAD_ARG);
                Check.dueAsNew("after play(" + game + ", ..)", x, p[0], p[1], p[2]);
            }
        }
        // The games on either side of 3 and 6 are played.
        for (int game : PLAYED) {
            Check.due("5 1 1: play(" + game + ", 0)", Check.with(5, 1, 1).play(game, 0), 0);
        }
    }

    private static void noneIfThereIsNone() {
        Check.sentence("Promise 9", "NONE if there is none.");
        for (int[] p : POSITIONS) {
            for (int game : PLAYED) {
                int winning = Check.with(p[0], p[1], p[2]).winning(game);
                for (int i : Check.outside(0, winning - 1)) {
                    HeapGames x = Check.with(p[0], p[1], p[2]);
                    Check.due("play(" + game + ", " + i + ")", x.play(game, i), Check.NONE);
                    Check.dueHeaps("play(" + game + ", " + i + ")", x, p[0], p[1], p[2]);
                }
                HeapGames x = Check.with(p[0], p[1], p[2]);
                Check.due("play(" + game + ", " + winning + ")", x.play(game, winning), Check.NONE);
                Check.due("play(" + game + ", -1)", x.play(game, -1), Check.NONE);
                Check.due("play(" + game + ", least)", x.play(game, Integer.MIN_VALUE), Check.NONE);
                Check.due("play(" + game + ", greatest)", x.play(game, Integer.MAX_VALUE), Check.NONE);
                Check.dueAsNew("after play(" + game + ", ..)", x, p[0], p[1], p[2]);
                if (winning > 0) {
                    Check.due("play(" + game + ", " + (winning - 1) + ")", x.play(game, winning - 1), 0);
                }
            }
        }
    }

    private static void noneAtTheEnd() {
        Check.sentence("Promise 9", "NONE if there is none. (After a play the position is lost.)");
        for (int game : PLAYED) {
            HeapGames x = Check.with(15, 6, 4);
            Check.due("play(" + game + ", 0)", x.play(game, 0), 0);
            int a = x.has(0);
            int b = x.has(1);
            int c = x.has(2);
            Check.due("second play(" + game + ", 0)", x.play(game, 0), Check.NONE);
            Check.dueAsNew("second play(" + game + ", 0)", x, a, b, c);
        }
        // No move at all, though in game 1 the position is won.
        HeapGames empty = new HeapGames();
        for (int game : PLAYED) {
            Check.due("empty: play(" + game + ", 0)", empty.play(game, 0), Check.NONE);
        }
        Check.dueAsNew("empty after play", empty, 0, 0, 0);
    }

    private static void alwaysZero() {
        Check.sentence("Promise 9", "Otherwise 1 if the position is won in this game for the other player then, "
            + "else 0 (that is, always 0).");
        for (int game : PLAYED) {
            for (int at = 0; at < 4096; at++) {
                int a = at % 16;
                int b = at / 16 % 16;
                int c = at / 256;
                int winning = Check.with(a, b, c).winning(game);
                for (int i = 0; i < winning; i++) {
                    HeapGames x = Check.with(a, b, c);
                    String call = "heaps " + a + " " + b + " " + c + ": play(" + game + ", " + i + ")";
                    Check.due(call, x.play(game, i), 0);
                    Check.due(call + ", won(" + game + ")", x.won(game), 0);
                }
            }
        }
    }

    private static void badArgIsTestedBeforeNone() {
        Check.sentence("Promise 10", "play: BAD_ARG is tested before NONE.");
        for (int[] p : POSITIONS) {
            for (int game : new int[] {Integer.MIN_VALUE, -4, -1, 3, 6, 8, Integer.MAX_VALUE}) {
                for (int i : Check.outside(0, 2)) {
                    HeapGames x = Check.with(p[0], p[1], p[2]);
                    Check.due("play(" + game + ", " + i + ")", x.play(game, i), Check.BAD_ARG);
                    Check.dueHeaps("play(" + game + ", " + i + ")", x, p[0], p[1], p[2]);
                }
            }
        }
    }
}
