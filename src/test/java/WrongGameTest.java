/** Terms, and promises 4 to 10: a game that is not 0 to 7 is refused first. */
public final class WrongGameTest {
    private WrongGameTest() {
    }

    public static void main(String[] args) {
        for (int game : Check.NO_GAMES) {
            refused(game, new HeapGames(), 0, 0, 0);
            refused(game, Check.with(3, 4, 5), 3, 4, 5);
            refused(game, Check.with(15, 15, 15), 15, 15, 15);
        }
        Check.finish();
    }

    private static void refused(int game, HeapGames x, int a, int b, int c) {
        Check.due("won(" + game + ")", x.won(game), Check.BAD_ARG);
        Check.due("moves(" + game + ")", x.moves(game), Check.BAD_ARG);
        Check.due("winning(" + game + ")", x.winning(game), Check.BAD_ARG);
        Check.due("value(" + game + ")", x.value(game), Check.BAD_ARG);
        for (int i : new int[] {Integer.MIN_VALUE, -1, 0, 1, 1000, Integer.MAX_VALUE}) {
            Check.due("winningMove(" + game + ", " + i + ")", x.winningMove(game, i), Check.BAD_ARG);
            Check.due("play(" + game + ", " + i + ")", x.play(game, i), Check.BAD_ARG);
        }
        Check.dueHeaps("game " + game, x, a, b, c);
    }
}
