/** The boundary cases that 'Terms' and promises 4 to 8 name for the answers. */
public final class AnswersBoundaryTest {
    private static final int[][] POSITIONS = {
        {0, 0, 0}, {0, 0, 15}, {1, 1, 1}, {3, 5, 9}, {4, 15, 15}, {12, 3, 15}, {15, 0, 0}, {15, 15, 15}};

    private AnswersBoundaryTest() {
    }

    public static void main(String[] args) {
        wonMeansThereIsAWinningMove();
        noMoveAtAll();
        mostMoves();
        noWinningMove();
        numbersTellTheHeaps();
        numbersTellWhatIsTaken();
        sameNumbersCountOnce();
        winningMoveCountsTheLesserOnes();
        winningMoveThatIsNotThere();
        valueOfNoMove();
        valueOfGame0();
        valueOfGame7();
        valueOfTheOtherGames();
        answersChangeNothing();
        Check.finish();
    }

    private static void wonMeansThereIsAWinningMove() {
        Check.sentence("Promise 4", "1 if the position is won in this game, else 0.");
        for (int game = 0; game < 8; game++) {
            for (int at = 0; at < 4096; at++) {
                HeapGames x = Check.with(at % 16, at / 16 % 16, at / 256);
                boolean won = x.winning(game) > 0 || game == 1 && x.moves(game) == 0;
                Check.due("won(" + game + ") at " + at, x.won(game), won ? 1 : 0);
            }
        }
        HeapGames empty = new HeapGames();
        Check.due("empty: won(0)", empty.won(0), 0);
        Check.due("empty: won(1)", empty.won(1), 1);
        Check.due("15 15 15: won(0)", Check.with(15, 15, 15).won(0), 1);
        Check.due("15 15 15: won(2)", Check.with(15, 15, 15).won(2), 0);
    }

    private static void noMoveAtAll() {
        Check.sentence("Promise 5", "How many moves there are. (None)");
        for (int game = 0; game < 8; game++) {
            Check.due("empty: moves(" + game + ")", new HeapGames().moves(game), 0);
        }
        Check.due("0 0 15: moves(4)", Check.with(0, 0, 15).moves(4), 0);
        Check.due("1 0 15: moves(4)", Check.with(1, 0, 15).moves(4), 1);
        Check.due("15 0 15: moves(5)", Check.with(15, 0, 15).moves(5), 0);
        Check.due("15 1 15: moves(5)", Check.with(15, 1, 15).moves(5), 15);
        Check.due("15 15 0: moves(6)", Check.with(15, 15, 0).moves(6), 0);
        Check.due("15 15 1: moves(6)", Check.with(15, 15, 1).moves(6), 1);
        Check.due("0 0 15: moves(6)", Check.with(0, 0, 15).moves(6), 0);
    }

    private static void mostMoves() {
        Check.sentence("Promise 5", "How many moves there are. (All heaps full)");
        int[] due = {45, 45, 720, 45, 45, 2, 15, 9};
        HeapGames full = Check.with(15, 15, 15);
        for (int game = 0; game < 8; game++) {
            Check.due("15 15 15: moves(" + game + ")", full.moves(game), due[game]);
            Check.due("15 15 15: moves(" + game + ") again", full.moves(game), due[game]);
        }
        Check.due("15 15 14: moves(2)", Check.with(15, 15, 14).moves(2), 689);
    }

    private static void noWinningMove() {
        Check.sentence("Promise 6", "How many winning moves there are.");
        int[][] lost = {{1, 2, 3}, {1, 1, 1}, {15, 15, 15}, {15, 15, 15}, {15, 9, 0}, {3, 2, 0}, {7, 3, 15}, {4, 8, 12}};
        int[] moves = {6, 3, 720, 45, 33, 1, 15, 9};
        for (int game = 0; game < 8; game++) {
            HeapGames empty = new HeapGames();
            Check.due("empty: winning(" + game + ")", empty.winning(game), 0);
            int[] p = lost[game];
            Check.dueGame(game, Check.with(p[0], p[1], p[2]), 0, moves[game]);
        }
        Check.due("15 15 15: winning(0)", Check.with(15, 15, 15).winning(0), 3);
        Check.due("15 0 0: winning(0)", Check.with(15, 0, 0).winning(0), 1);
    }

    private static void numbersTellTheHeaps() {
        Check.sentence("Terms", "in the others by what the heaps have after it, heap 0's number, "
            + "32 times heap 1's and 1024 times heap 2's");
        Check.due("15 0 0: winningMove(0, 0)", Check.with(15, 0, 0).winningMove(0, 0), 0);
        Check.due("1 1 1: winningMove(0, 0)", Check.with(1, 1, 1).winningMove(0, 0), 33);
        Check.due("1 1 1: winningMove(0, 1)", Check.with(1, 1, 1).winningMove(0, 1), 1025);
        Check.due("1 1 1: winningMove(0, 2)", Check.with(1, 1, 1).winningMove(0, 2), 1056);
        Check.due("15 15 1: winningMove(0, 0)", Check.with(15, 15, 1).winningMove(0, 0), 495);
        Check.due("1 15 15: winningMove(0, 2)", Check.with(1, 15, 15).winningMove(0, 2), 15840);
        Check.due("0 15 15: winningMove(3, 0)", Check.with(0, 15, 15).winningMove(3, 0), 960);
        Check.due("0 15 15: winningMove(3, 1)", Check.with(0, 15, 15).winningMove(3, 1), 15375);
        Check.due("1 0 15: winningMove(4, 0)", Check.with(1, 0, 15).winningMove(4, 0), 15360);
    }

    private static void numbersTellWhatIsTaken() {
        Check.sentence("Terms", "in game 6 by how many counters are taken");
        Check.due("1 0 1: winningMove(6, 0)", Check.with(1, 0, 1).winningMove(6, 0), 1);
        Check.due("15 0 15: winningMove(6, 0)", Check.with(15, 0, 15).winningMove(6, 0), 2);
        Check.due("15 0 15: winningMove(6, 1)", Check.with(15, 0, 15).winningMove(6, 1), 15);
        Check.due("15 0 14: winningMove(6, 1)", Check.with(15, 0, 14).winningMove(6, 1), Check.NONE);
        Check.due("15 15 15: winningMove(6, 0)", Check.with(15, 15, 15).winningMove(6, 0), 5);
    }

    private static int movesByHand(int game, int a, int b, int c) {
        int lesser = Math.min(a, b);
        int greater = Math.max(a, b);
        return switch (game) {
            case 2 -> a + b + c + a * b + b * c + c * a;
            case 4 -> a + b + lesser;
            case 5 -> lesser == 0 ? 0 : lesser == greater ? 2 : greater / lesser;
            case 6 -> Math.min(c, Math.min(60, a + 16 * b));
            case 7 -> Math.min(a, 3) + Math.min(b, 3) + Math.min(c, 3);
            default -> a + b + c;
        };
    }

    private static void sameNumbersCountOnce() {
        Check.sentence("Terms", "moves with the same number count once.");
        for (int game = 0; game < 8; game++) {
            for (int at = 0; at < 4096; at++) {
                int a = at % 16;
                int b = at / 16 % 16;
                int c = at / 256;
                HeapGames x = Check.with(a, b, c);
                String call = "heaps " + a + " " + b + " " + c + ", game " + game + ": ";
                Check.due(call + "moves", x.moves(game), movesByHand(game, a, b, c));
                int before = -1;
                for (int i = 0; i < x.winning(game) && i < 200; i++) {
                    int number = x.winningMove(game, i);
                    Check.due(call + "winningMove " + i + " is greater", number > before ? 1 : 0, 1);
                    before = number;
                }
            }
        }
    }

    private static void winningMoveCountsTheLesserOnes() {
        Check.sentence("Promise 7", "The number of the winning move with i lesser ones");
        HeapGames x = Check.with(4, 15, 15);
        // 4 15 15 in game 3: 11 from heap 2 to heap 1, or 11 from heap 1 to heap 0.
        Check.due("winningMove(3, 0)", x.winningMove(3, 0), Check.number(4, 26, 4));
        Check.due("winningMove(3, 1)", x.winningMove(3, 1), Check.number(15, 4, 15));
        Check.due("winningMove(3, 2)", x.winningMove(3, 2), Check.NONE);
        Check.due("winningMove(3, 0) again", x.winningMove(3, 0), Check.number(4, 26, 4));
        HeapGames y = Check.with(5, 5, 0);
        Check.due("winningMove(5, 0)", y.winningMove(5, 0), 5);
        Check.due("winningMove(5, 1)", y.winningMove(5, 1), 160);
    }

    private static void winningMoveThatIsNotThere() {
        Check.sentence("Promise 7", "NONE if there is none.");
        for (int[] p : POSITIONS) {
            for (int game = 0; game < 8; game++) {
                int winning = Check.with(p[0], p[1], p[2]).winning(game);
                for (int i : Check.outside(0, winning - 1)) {
                    HeapGames x = Check.with(p[0], p[1], p[2]);
                    Check.due("winningMove(" + game + ", " + i + ")", x.winningMove(game, i), Check.NONE);
                }
                HeapGames x = Check.with(p[0], p[1], p[2]);
                if (winning > 0) {
                    int last = x.winningMove(game, winning - 1);
                    Check.due("winningMove(" + game + ", " + (winning - 1) + ") is there", last >= 0 ? 1 : 0, 1);
                }
                Check.due("winningMove(" + game + ", least)", x.winningMove(game, Integer.MIN_VALUE), Check.NONE);
                Check.due("winningMove(" + game + ", greatest)", x.winningMove(game, Integer.MAX_VALUE), Check.NONE);
                Check.dueAsNew("after game " + game, x, p[0], p[1], p[2]);
            }
        }
    }

    private static void valueOfNoMove() {
        Check.sentence("Promise 8", "the least number from 0 on that is the value of no position to which a move leads. "
            + "(No move)");
        Check.due("empty: value(0)", new HeapGames().value(0), 0);
        Check.due("empty: value(7)", new HeapGames().value(7), 0);
        for (int game : new int[] {0, 7}) {
            for (int at = 0; at < 4096; at++) {
                HeapGames x = Check.with(at % 16, at / 16 % 16, at / 256);
                Check.due("value(" + game + ") is 0 at " + at, x.value(game) == 0 ? 1 : 0, 1 - x.won(game));
            }
        }
    }

    private static void valueOfGame0() {
        Check.sentence("Promise 8", "The VALUE of the position in games 0 and 7 (game 0)");
        for (int n = 0; n <= 15; n++) {
            Check.due(n + " 0 0: value(0)", Check.with(n, 0, 0).value(0), n);
            Check.due("0 " + n + " 0: value(0)", Check.with(0, n, 0).value(0), n);
            Check.due("0 0 " + n + ": value(0)", Check.with(0, 0, n).value(0), n);
            Check.due(n + " " + n + " 15: value(0)", Check.with(n, n, 15).value(0), 15);
        }
        Check.due("15 15 15: value(0)", Check.with(15, 15, 15).value(0), 15);
        Check.due("8 7 0: value(0)", Check.with(8, 7, 0).value(0), 15);
        Check.due("15 14 1: value(0)", Check.with(15, 14, 1).value(0), 0);
    }

    private static void valueOfGame7() {
        Check.sentence("Promise 8", "The VALUE of the position in games 0 and 7 (game 7)");
        for (int n = 0; n <= 15; n++) {
            Check.due(n + " 0 0: value(7)", Check.with(n, 0, 0).value(7), n % 4);
            Check.due("0 " + n + " 0: value(7)", Check.with(0, n, 0).value(7), n % 4);
            Check.due("0 0 " + n + ": value(7)", Check.with(0, 0, n).value(7), n % 4);
            Check.due(n + " " + n + " 15: value(7)", Check.with(n, n, 15).value(7), 3);
        }
        Check.due("15 15 15: value(7)", Check.with(15, 15, 15).value(7), 3);
        Check.due("1 2 4: value(7)", Check.with(1, 2, 4).value(7), 3);
        Check.due("3 5 6: value(7)", Check.with(3, 5, 6).value(7), 0);
    }

    private static void valueOfTheOtherGames() {
        Check.sentence("Promise 8", "BAD_ARG for the other games.");
        for (int[] p : POSITIONS) {
            for (int game = 1; game <= 6; game++) {
                HeapGames x = Check.with(p[0], p[1], p[2]);
                Check.due("value(" + game + ")", x.value(game), Check.BAD_ARG);
                Check.dueAsNew("after value(" + game + ")", x, p[0], p[1], p[2]);
            }
            for (int game : Check.outside(0, 7)) {
                HeapGames x = Check.with(p[0], p[1], p[2]);
                Check.due("value(" + game + ")", x.value(game), Check.BAD_ARG);
                Check.dueHeaps("value(" + game + ")", x, p[0], p[1], p[2]);
            }
        }
    }

    private static void answersChangeNothing() {
        Check.sentence("Not promised", "Nothing is promised beyond the answers and state changes described above");
        for (int[] p : POSITIONS) {
            for (int game = 0; game < 8; game++) {
                HeapGames x = Check.with(p[0], p[1], p[2]);
                x.won(game);
                Check.dueAsNew("after won(" + game + ")", x, p[0], p[1], p[2]);
                x.moves(game);
                Check.dueAsNew("after moves(" + game + ")", x, p[0], p[1], p[2]);
                x.winning(game);
                Check.dueAsNew("after winning(" + game + ")", x, p[0], p[1], p[2]);
                x.winningMove(game, 0);
                Check.dueAsNew("after winningMove(" + game + ", 0)", x, p[0], p[1], p[2]);
                x.value(game);
                Check.dueAsNew("after value(" + game + ")", x, p[0], p[1], p[2]);
            }
        }
    }
}
