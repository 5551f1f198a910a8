/** Promises 4 to 8, on positions worked out by hand, one group for each game. */
public final class GamesTest {
    private GamesTest() {
    }

    public static void main(String[] args) {
        nim();
        misereNim();
        twoHeapNim();
        staircase();
        wythoff();
        euclid();
        fibonacci();
        oneToThree();
        valuesOfTheOtherGames();
        Check.finish();
    }

    private static void look(int game, HeapGames x, int won, int moves, int... winning) {
        Check.dueGame(game, x, won, moves, winning);
    }

    private static int number(int a, int b, int c) {
        return Check.number(a, b, c);
    }

    private static void nim() {
        look(0, Check.with(0, 0, 0), 0, 0);
        look(0, Check.with(0, 0, 15), 1, 15, 0);
        look(0, Check.with(1, 2, 3), 0, 6);
        look(0, Check.with(1, 1, 1), 1, 3, number(1, 1, 0), number(1, 0, 1), number(0, 1, 1));
        Check.due("1 2 3: value(0)", Check.with(1, 2, 3).value(0), 0);
        Check.due("15 0 0: value(0)", Check.with(15, 0, 0).value(0), 15);
        Check.due("8 4 2: value(0)", Check.with(8, 4, 2).value(0), 14);
    }

    private static void misereNim() {
        look(1, Check.with(0, 0, 0), 1, 0);
        look(1, Check.with(1, 0, 0), 0, 1);
        look(1, Check.with(1, 0, 1), 1, 2, number(1, 0, 0), number(0, 0, 1));
        look(1, Check.with(1, 1, 1), 0, 3);
        look(1, Check.with(2, 0, 0), 1, 2, number(1, 0, 0));
        look(1, Check.with(2, 2, 0), 0, 4);
        look(1, Check.with(1, 1, 2), 1, 4, number(1, 1, 1));
    }

    private static void twoHeapNim() {
        look(2, Check.with(1, 1, 1), 0, 6);
        look(2, Check.with(0, 15, 0), 1, 15, 0);
        look(2, Check.with(2, 3, 0), 1, 11, 0);
        look(2, Check.with(1, 2, 2), 1, 13, number(1, 1, 1));
    }

    private static void staircase() {
        look(3, Check.with(0, 1, 0), 0, 1);
        look(3, Check.with(0, 0, 1), 1, 1, number(0, 1, 0));
        look(3, Check.with(1, 0, 0), 1, 1, 0);
        look(3, Check.with(15, 15, 15), 0, 45);
        // Heap 1 has more than 15 then, and the number must tell it.
        look(3, Check.with(2, 15, 15), 1, 32, number(2, 28, 2), number(15, 2, 15));
    }

    private static void wythoff() {
        look(4, Check.with(1, 2, 0), 0, 4);
        look(4, Check.with(15, 9, 0), 0, 33);
        look(4, Check.with(2, 2, 0), 1, 6, number(0, 0, 0), number(2, 1, 0), number(1, 2, 0));
        // Heap 2 is no part of the game, but of the number.
        look(4, Check.with(0, 0, 7), 0, 0);
        look(4, Check.with(3, 0, 7), 1, 3, number(0, 0, 7));
    }

    private static void euclid() {
        look(5, Check.with(0, 9, 0), 0, 0);
        look(5, Check.with(9, 0, 9), 0, 0);
        look(5, Check.with(1, 1, 0), 1, 2, number(1, 0, 0), number(0, 1, 0));
        look(5, Check.with(3, 2, 0), 0, 1);
        look(5, Check.with(2, 3, 5), 0, 1);
        look(5, Check.with(15, 2, 1), 1, 7, number(3, 2, 1));
        look(5, Check.with(13, 8, 0), 1, 1, number(5, 8, 0));
        look(5, Check.with(1, 15, 0), 1, 15, number(1, 0, 0));
    }

    private static void fibonacci() {
        look(6, Check.with(5, 0, 0), 0, 0);
        look(6, Check.with(0, 0, 15), 0, 0);
        look(6, Check.with(4, 0, 15), 1, 4, 1, 4);
        look(6, Check.with(13, 0, 12), 0, 12);
        look(6, Check.with(13, 0, 13), 1, 13, 13);
        // 55 is the last lost one, and more than 60 counters count as 60.
        look(6, Check.with(7, 3, 15), 0, 15);
        look(6, Check.with(12, 3, 15), 1, 15, 5);
        look(6, Check.with(13, 3, 15), 1, 15, 5);
        look(6, Check.with(0, 15, 15), 1, 15, 5);
        look(6, Check.with(0, 15, 4), 0, 4);
    }

    private static void oneToThree() {
        look(7, Check.with(4, 8, 12), 0, 9);
        look(7, Check.with(4, 0, 0), 0, 3);
        look(7, Check.with(0, 0, 7), 1, 3, number(0, 0, 4));
        look(7, Check.with(1, 2, 3), 0, 6);
        look(7, Check.with(2, 1, 0), 1, 3, number(1, 1, 0));
        Check.due("15 0 0: value(7)", Check.with(15, 0, 0).value(7), 3);
        Check.due("4 5 6: value(7)", Check.with(4, 5, 6).value(7), 3);
        Check.due("4 8 12: value(7)", Check.with(4, 8, 12).value(7), 0);
    }

    private static void valuesOfTheOtherGames() {
        HeapGames x = Check.with(3, 5, 9);
        for (int game = 1; game <= 6; game++) {
            Check.due("value(" + game + ")", x.value(game), Check.BAD_ARG);
        }
    }
}
