/** The boundary cases that 'Terms' names for the single games. */
public final class GamesBoundaryTest {
    private GamesBoundaryTest() {
    }

    public static void main(String[] args) {
        whoCannotMove();
        whoTakesTheLast();
        game0();
        game1();
        game2();
        game3();
        game3HeapsOverFifteen();
        game4();
        game4LeavesHeap2Out();
        game5NeitherIsEmpty();
        game5NotMoreThanItHas();
        game5EquallyMany();
        game5LeavesHeap2Out();
        game6Counters();
        game6AtMostSixty();
        game6FirstMove();
        game6LaterMoves();
        game7();
        Check.finish();
    }

    private static void look(int game, int a, int b, int c, int won, int moves, int... winning) {
        Check.dueGame(game, Check.with(a, b, c), won, moves, winning);
    }

    private static int number(int a, int b, int c) {
        return Check.number(a, b, c);
    }

    private static boolean canMove(int game, int a, int b, int c) {
        return switch (game) {
            case 4 -> a + b > 0;
            case 5 -> a > 0 && b > 0;
            case 6 -> a + b > 0 && c > 0;
            default -> a + b + c > 0;
        };
    }

    private static void whoCannotMove() {
        Check.sentence("Terms", "in games 0 and 2 to 7 a player who can't move has lost, "
            + "in game 1 a player who can't move has won.");
        for (int game = 0; game < 8; game++) {
            for (int at = 0; at < 4096; at++) {
                int a = at % 16;
                int b = at / 16 % 16;
                int c = at / 256;
                HeapGames x = Check.with(a, b, c);
                String call = "heaps " + a + " " + b + " " + c + ", game " + game + ": ";
                Check.due(call + "can move", x.moves(game) > 0 ? 1 : 0, canMove(game, a, b, c) ? 1 : 0);
                if (!canMove(game, a, b, c)) {
                    Check.due(call + "won", x.won(game), game == 1 ? 1 : 0);
                    Check.due(call + "winning", x.winning(game), 0);
                    Check.due(call + "winningMove 0", x.winningMove(game, 0), Check.NONE);
                }
            }
        }
    }

    private static void whoTakesTheLast() {
        Check.sentence("Terms", "a player who can't move has lost [...] has won: the last counter");
        for (int game : new int[] {0, 2, 3, 4, 7}) {
            look(game, 1, 0, 0, 1, 1, 0);
        }
        look(1, 1, 0, 0, 0, 1);
        look(1, 0, 1, 0, 0, 1);
        look(1, 0, 0, 1, 0, 1);
        look(1, 1, 1, 0, 1, 2, number(1, 0, 0), number(0, 1, 0));
        look(1, 2, 0, 0, 1, 2, number(1, 0, 0));
        look(5, 1, 1, 0, 1, 2, number(1, 0, 0), number(0, 1, 0));
        look(6, 1, 0, 1, 1, 1, 1);
    }

    private static void game0() {
        Check.sentence("Terms, game 0", "a move takes one counter or more from one heap.");
        look(0, 0, 0, 0, 0, 0);
        for (int n = 1; n <= 15; n++) {
            look(0, n, 0, 0, 1, n, 0);
            look(0, 0, n, 0, 1, n, 0);
            look(0, 0, 0, n, 1, n, 0);
            look(0, n, n, 0, 0, 2 * n);
        }
        // Not from two heaps at once: 1 1 0 has two moves.
        look(0, 1, 1, 0, 0, 2);
        look(0, 15, 15, 15, 1, 45, number(15, 15, 0), number(15, 0, 15), number(0, 15, 15));
        look(0, 15, 15, 14, 1, 44, number(15, 15, 0), number(15, 1, 14), number(1, 15, 14));
    }

    private static void game1() {
        Check.sentence("Terms, game 1", "the same moves.");
        for (int at = 0; at < 4096; at++) {
            HeapGames x = Check.with(at % 16, at / 16 % 16, at / 256);
            Check.due("moves(1) at " + at, x.moves(1), at % 16 + at / 16 % 16 + at / 256);
        }
        look(1, 0, 0, 0, 1, 0);
        look(1, 1, 1, 1, 0, 3);
        look(1, 1, 1, 2, 1, 4, number(1, 1, 1));
        look(1, 2, 2, 0, 0, 4);
        look(1, 2, 2, 1, 1, 5, number(2, 2, 0));
        look(1, 15, 0, 0, 1, 15, 1);
        look(1, 15, 1, 0, 1, 16, number(0, 1, 0));
        look(1, 15, 15, 0, 0, 30);
    }

    private static void game2() {
        Check.sentence("Terms, game 2", "a move takes one counter or more from one heap, "
            + "or from each of two heaps (not as many from each, perhaps).");
        look(2, 0, 0, 0, 0, 0);
        look(2, 0, 1, 0, 1, 1, 0);
        look(2, 1, 1, 0, 1, 3, 0);
        look(2, 2, 1, 0, 1, 5, 0);
        look(2, 0, 15, 1, 1, 31, 0);
        look(2, 14, 0, 15, 1, 239, 0);
        // Not from three heaps at once.
        look(2, 1, 1, 1, 0, 6);
        look(2, 15, 15, 15, 0, 720);
        look(2, 15, 15, 14, 1, 689, number(14, 14, 14));
        look(2, 14, 15, 15, 1, 689, number(14, 14, 14));
        look(2, 14, 15, 14, 1, 659, number(14, 14, 14));
    }

    private static void game3() {
        Check.sentence("Terms, game 3", "a move takes one counter or more from heap 2 and puts them on heap 1, "
            + "or from heap 1 to heap 0, or from heap 0 away.");
        look(3, 0, 0, 0, 0, 0);
        look(3, 1, 0, 0, 1, 1, 0);
        look(3, 0, 1, 0, 0, 1);
        look(3, 0, 0, 1, 1, 1, number(0, 1, 0));
        look(3, 0, 15, 0, 0, 15);
        look(3, 15, 0, 0, 1, 15, 0);
        look(3, 0, 0, 15, 1, 15, number(0, 15, 0));
        look(3, 15, 15, 0, 1, 30, number(0, 15, 0));
        // Heap 1 has one too few, then just enough for heap 0.
        look(3, 2, 4, 7, 1, 13, number(2, 9, 2));
        look(3, 2, 5, 7, 1, 14, number(2, 10, 2), number(7, 0, 7));
    }

    private static void game3HeapsOverFifteen() {
        Check.sentence("Terms, game 3", "(Heaps may have more than 15 then.)");
        look(3, 0, 14, 1, 1, 15, number(0, 15, 0), number(1, 13, 1));
        look(3, 0, 15, 1, 1, 16, number(0, 16, 0), number(1, 14, 1));
        look(3, 14, 15, 15, 1, 44, number(14, 16, 14), number(15, 14, 15));
        look(3, 0, 15, 15, 1, 30, number(0, 30, 0), number(15, 0, 15));
        look(3, 0, 14, 15, 1, 29, number(0, 29, 0));
        // Heap 0 would have 16, or 30: such moves count, though none of them wins.
        look(3, 15, 1, 15, 0, 31);
        look(3, 15, 15, 15, 0, 45);
    }

    private static void game4() {
        Check.sentence("Terms, game 4", "a move takes one counter or more from one of them, "
            + "or equally many from both.");
        look(4, 0, 0, 0, 0, 0);
        look(4, 1, 0, 0, 1, 1, 0);
        look(4, 0, 1, 0, 1, 1, 0);
        look(4, 1, 1, 0, 1, 3, 0);
        look(4, 1, 2, 0, 0, 4);
        look(4, 2, 1, 0, 0, 4);
        look(4, 15, 0, 0, 1, 15, 0);
        look(4, 15, 1, 0, 1, 17, number(2, 1, 0));
        look(4, 15, 15, 0, 1, 45, number(0, 0, 0), number(15, 9, 0), number(9, 15, 0));
        look(4, 15, 9, 0, 0, 33);
        look(4, 9, 14, 0, 1, 32, number(8, 13, 0));
    }

    private static void game4LeavesHeap2Out() {
        Check.sentence("Terms, game 4", "with heaps 0 and 1 alone");
        look(4, 0, 0, 1, 0, 0);
        look(4, 0, 0, 15, 0, 0);
        look(4, 1, 2, 15, 0, 4);
        look(4, 15, 15, 15, 1, 45, number(0, 0, 15), number(15, 9, 15), number(9, 15, 15));
        look(4, 5, 0, 5, 1, 5, number(0, 0, 5));
    }

    private static void game5NeitherIsEmpty() {
        Check.sentence("Terms, game 5", "if neither is empty");
        look(5, 0, 0, 0, 0, 0);
        for (int n = 1; n <= 15; n++) {
            look(5, n, 0, 0, 0, 0);
            look(5, 0, n, 0, 0, 0);
        }
        look(5, 1, 1, 0, 1, 2, number(1, 0, 0), number(0, 1, 0));
        look(5, 15, 1, 0, 1, 15, number(0, 1, 0));
        look(5, 1, 15, 0, 1, 15, number(1, 0, 0));
    }

    private static void game5NotMoreThanItHas() {
        Check.sentence("Terms, game 5", "a move takes as many counters as the smaller heap has, or twice, "
            + "or three times as many, and so on, from the greater one, not more than it has.");
        look(5, 15, 8, 0, 1, 1, number(7, 8, 0));
        look(5, 15, 7, 0, 1, 2, number(8, 7, 0));
        look(5, 14, 7, 0, 1, 2, number(0, 7, 0));
        look(5, 13, 7, 0, 1, 1, number(6, 7, 0));
        look(5, 7, 14, 0, 1, 2, number(7, 0, 0));
        look(5, 15, 5, 0, 1, 3, number(0, 5, 0));
        look(5, 14, 5, 0, 1, 2, number(4, 5, 0));
        look(5, 3, 15, 0, 1, 5, number(3, 0, 0));
        look(5, 3, 14, 0, 1, 4, number(3, 2, 0));
        look(5, 8, 13, 0, 1, 1, number(8, 5, 0));
        look(5, 8, 12, 0, 0, 1);
        look(5, 2, 3, 0, 0, 1);
    }

    private static void game5EquallyMany() {
        Check.sentence("Terms, game 5", "(If both have equally many, from either one.)");
        for (int n = 1; n <= 15; n++) {
            look(5, n, n, 0, 1, 2, number(n, 0, 0), number(0, n, 0));
        }
        // On either side: one more in one of them, and a move from that one alone.
        look(5, 7, 8, 0, 0, 1);
        look(5, 8, 7, 0, 0, 1);
        look(5, 14, 15, 0, 0, 1);
    }

    private static void game5LeavesHeap2Out() {
        Check.sentence("Terms, game 5", "with heaps 0 and 1 alone");
        look(5, 0, 0, 15, 0, 0);
        look(5, 15, 0, 15, 0, 0);
        look(5, 0, 15, 15, 0, 0);
        look(5, 15, 15, 15, 1, 2, number(15, 0, 15), number(0, 15, 15));
        look(5, 4, 2, 1, 1, 2, number(0, 2, 1));
    }

    private static void game6Counters() {
        Check.sentence("Terms, game 6", "with one heap of as many counters as heap 0 has and 16 for each of heap 1");
        look(6, 0, 0, 15, 0, 0);
        look(6, 1, 0, 15, 1, 1, 1);
        look(6, 14, 0, 15, 1, 14, 1, 14);
        look(6, 15, 0, 15, 1, 15, 2, 15);
        look(6, 0, 1, 15, 1, 15, 3);
        look(6, 15, 1, 15, 1, 15, 2, 10);
        look(6, 0, 2, 15, 1, 15, 3);
        look(6, 2, 2, 15, 0, 15);
        look(6, 15, 2, 15, 1, 15, 13);
        look(6, 0, 3, 15, 1, 15, 1, 14);
    }

    private static void game6AtMostSixty() {
        Check.sentence("Terms, game 6", "but at most 60");
        // 55 is lost; 59 would not be won as 60 is, nor would 61, 62, 63, 64 or 255.
        look(6, 7, 3, 15, 0, 15);
        look(6, 10, 3, 15, 1, 15, 3);
        look(6, 11, 3, 15, 1, 15, 1, 4);
        for (int a = 12; a <= 15; a++) {
            look(6, a, 3, 15, 1, 15, 5);
        }
        for (int b = 4; b <= 15; b++) {
            for (int a = 0; a <= 15; a++) {
                look(6, a, b, 15, 1, 15, 5);
                look(6, a, b, 5, 1, 5, 5);
                look(6, a, b, 4, 0, 4);
            }
        }
    }

    private static void game6FirstMove() {
        Check.sentence("Terms, game 6", "the first move takes at least one, and at most as many as heap 2 has");
        for (int c = 0; c <= 15; c++) {
            Check.due("60 counters, heap 2 has " + c, Check.with(12, 3, c).moves(6), c);
            Check.due("8 counters, heap 2 has " + c, Check.with(8, 0, c).moves(6), Math.min(8, c));
        }
        look(6, 15, 15, 0, 0, 0);
        look(6, 8, 0, 7, 0, 7);
        look(6, 8, 0, 8, 1, 8, 8);
        look(6, 8, 0, 9, 1, 8, 8);
        look(6, 4, 0, 0, 0, 0);
        look(6, 4, 0, 1, 1, 1, 1);
        look(6, 4, 0, 3, 1, 3, 1);
        look(6, 4, 0, 4, 1, 4, 1, 4);
    }

    private static void game6LaterMoves() {
        Check.sentence("Terms, game 6", "every later one at least one, and at most twice as many as the move before.");
        // Three are left after one: two may be taken, not three.
        look(6, 4, 0, 1, 1, 1, 1);
        // Two are left after one, and two may be taken.
        look(6, 3, 0, 1, 0, 1);
        look(6, 3, 0, 2, 0, 2);
        look(6, 3, 0, 3, 1, 3, 3);
        // Five are left after two, of which four may be taken.
        look(6, 7, 0, 2, 1, 2, 2);
        // Eight are left after four, and all may be taken.
        look(6, 12, 0, 4, 1, 4, 1);
        look(6, 12, 0, 12, 1, 12, 1, 12);
    }

    private static void game7() {
        Check.sentence("Terms, game 7", "a move takes one, two or three counters from one heap.");
        for (int n = 0; n <= 15; n++) {
            int won = n % 4 == 0 ? 0 : 1;
            int rest = n - n % 4;
            int[] none = {};
            look(7, n, 0, 0, won, Math.min(n, 3), won == 0 ? none : new int[] {rest});
            look(7, 0, n, 0, won, Math.min(n, 3), won == 0 ? none : new int[] {number(0, rest, 0)});
            look(7, 0, 0, n, won, Math.min(n, 3), won == 0 ? none : new int[] {number(0, 0, rest)});
        }
        // Not from two heaps at once: 1 1 0 has two moves.
        look(7, 1, 1, 0, 0, 2);
        look(7, 4, 4, 4, 0, 9);
        look(7, 2, 3, 4, 1, 8, number(2, 3, 1), number(2, 2, 4));
        look(7, 15, 15, 15, 1, 9, number(15, 15, 12), number(15, 12, 15), number(12, 15, 15));
    }
}
