import java.util.List;

/** Promises 4 to 9: every position of the three heaps in every game. */
public final class EveryPositionTest {
    private EveryPositionTest() {
    }

    public static void main(String[] args) {
        for (int game = 0; game < 8; game++) {
            Rules rules = new Rules(game);
            for (int a = 0; a <= 15; a++) {
                for (int b = 0; b <= 15; b++) {
                    for (int c = 0; c <= 15; c++) {
                        look(rules, game, a, b, c);
                    }
                }
            }
        }
        Check.finish();
    }

    private static void look(Rules rules, int game, int a, int b, int c) {
        HeapGames x = Check.with(a, b, c);
        int[] p = rules.start(a, b, c);
        List<Integer> winning = rules.winning(p);
        String at = "heaps " + a + " " + b + " " + c + ": ";
        Check.due(at + "won(" + game + ")", x.won(game), rules.won(p) ? 1 : 0);
        Check.due(at + "moves(" + game + ")", x.moves(game), rules.moves(p).size());
        Check.due(at + "winning(" + game + ")", x.winning(game), winning.size());
        for (int i = -1; i <= winning.size() + 1; i++) {
            boolean there = i >= 0 && i < winning.size();
            int number = there ? winning.get(i) : Check.NONE;
            Check.due(at + "winningMove(" + game + ", " + i + ")", x.winningMove(game, i), number);
            lookAtPlay(game, i, number, new int[] {a, b, c});
        }
        int value = game == 0 || game == 7 ? rules.value(p) : Check.BAD_ARG;
        Check.due(at + "value(" + game + ")", x.value(game), value);
        Check.dueHeaps(at + "after looking at game " + game, x, a, b, c);
    }

    private static void lookAtPlay(int game, int i, int number, int[] heaps) {
        HeapGames x = Check.with(heaps[0], heaps[1], heaps[2]);
        String call = "heaps " + heaps[0] + " " + heaps[1] + " " + heaps[2] + ": play(" + game + ", " + i + ")";
        if (game == 3 || game == 6) {
            Check.due(call, x.play(game, i), Check.BAD_ARG);
            Check.dueHeaps(call, x, heaps[0], heaps[1], heaps[2]);
        } else if (number == Check.NONE) {
            Check.due(call, x.play(game, i), Check.NONE);
            Check.dueHeaps(call, x, heaps[0], heaps[1], heaps[2]);
        } else {
            Check.due(call, x.play(game, i), 0);
            Check.dueHeaps(call, x, number % 32, number / 32 % 32, number / 1024);
            Check.due(call + ", won(" + game + ")", x.won(game), 0);
        }
    }
}
