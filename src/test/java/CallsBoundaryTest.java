/** The boundary cases that 'What it is' and 'Terms' name for every call. */
public final class CallsBoundaryTest {
    private static final int[][] POSITIONS = {
        {0, 0, 0}, {1, 0, 0}, {0, 1, 0}, {0, 0, 1}, {1, 1, 1}, {1, 2, 3}, {3, 5, 9}, {12, 3, 15}, {0, 15, 15},
        {15, 15, 15}};

    private static final int FILLERS = 10;

    private CallsBoundaryTest() {
    }

    public static void main(String[] args) {
        theLastCallAnswersAsTheFirst();
        noCallThrows();
        refusedCallsChangeNothing();
        wrongGamesAreRefused();
        wrongGamesAreRefusedFirst();
        leastAndGreatestGame();
        constantsAreTheCodes();
        Check.finish();
    }

    private static void theLastCallAnswersAsTheFirst() {
        Check.sentence("What it is", "An object is used for at most 512 calls after it has been made");
        for (int filler = 0; filler < FILLERS; filler++) {
            String at = "call 512 after filler " + filler + ": ";
            Check.due(at + "heap(1, 15)", used(filler).heap(1, 15), 13);
            Check.due(at + "heap(1, 16)", used(filler).heap(1, 16), Check.BAD_ARG);
            Check.due(at + "has(0)", used(filler).has(0), 8);
            Check.due(at + "has(3)", used(filler).has(3), Check.BAD_ARG);
            Check.due(at + "won(0)", used(filler).won(0), 1);
            Check.due(at + "moves(2)", used(filler).moves(2), 213);
            Check.due(at + "winning(0)", used(filler).winning(0), 1);
            Check.due(at + "winningMove(0, 0)", used(filler).winningMove(0, 0), 4488);
            Check.due(at + "winningMove(0, 1)", used(filler).winningMove(0, 1), Check.NONE);
            Check.due(at + "value(0)", used(filler).value(0), 1);
            Check.due(at + "value(7)", used(filler).value(7), 1);
            Check.due(at + "play(0, 0)", used(filler).play(0, 0), 0);
            Check.due(at + "play(0, 1)", used(filler).play(0, 1), Check.NONE);
            Check.due(at + "play(3, 0)", used(filler).play(3, 0), Check.BAD_ARG);
        }
    }

    /** An object with the heaps 8, 13 and 4 of which 511 calls have been used. */
    private static HeapGames used(int filler) {
        HeapGames x = new HeapGames();
        for (int call = 0; call < 508; call++) {
            fill(x, filler, call);
        }
        x.heap(0, 8);
        x.heap(1, 13);
        x.heap(2, 4);
        return x;
    }

    private static void fill(HeapGames x, int filler, int call) {
        switch (filler) {
            case 0 -> x.heap(call % 3, call % 16);
            case 1 -> x.heap(call, -call);
            case 2 -> x.winning(call % 8);
            case 3 -> x.play(call % 9, call % 4);
            case 4 -> x.won(call - 254);
            case 5 -> x.has(call % 5 - 1);
            case 6 -> x.moves(call % 8);
            case 7 -> x.winningMove(call % 8, call % 4 - 1);
            case 8 -> x.value(call % 8);
            default -> {
                if (call % 2 == 0) {
                    x.heap(call % 3, 15);
                } else {
                    x.play(0, 0);
                }
            }
        }
    }

    private static void noCallThrows() {
        Check.sentence("Terms", "No call ever throws.");
        int[] any = {Integer.MIN_VALUE, Integer.MIN_VALUE + 1, -1, 0, 1, 2, 3, 5, 7, 8, 15, 16, 720, 4096,
            Integer.MAX_VALUE - 1, Integer.MAX_VALUE};
        for (int[] p : POSITIONS) {
            for (int first : any) {
                for (int second : any) {
                    HeapGames x = Check.with(p[0], p[1], p[2]);
                    // Three calls are used, and each round has nine: 512 are the most that are promised.
                    for (int round = 0; round < 56; round++) {
                        callAll(x, first, second);
                    }
                    Check.due("calls without a throw", 1, 1);
                }
            }
        }
    }

    private static void callAll(HeapGames x, int first, int second) {
        x.heap(first, second);
        x.has(first);
        x.won(first);
        x.moves(first);
        x.winning(first);
        x.winningMove(first, second);
        x.value(first);
        x.play(first, second);
        x.heap(second & 1, first & 15);
    }

    private static void refusedCallsChangeNothing() {
        Check.sentence("Terms", "A refused call answers the code named and changes nothing.");
        for (int[] p : POSITIONS) {
            String at = "heaps " + p[0] + " " + p[1] + " " + p[2] + ": ";
            HeapGames x = Check.with(p[0], p[1], p[2]);
            Check.due(at + "heap(-1, 7)", x.heap(-1, 7), Check.BAD_ARG);
            Check.due(at + "heap(3, 7)", x.heap(3, 7), Check.BAD_ARG);
            Check.due(at + "heap(0, 16)", x.heap(0, 16), Check.BAD_ARG);
            Check.due(at + "heap(1, 16)", x.heap(1, 16), Check.BAD_ARG);
            Check.due(at + "heap(2, -1)", x.heap(2, -1), Check.BAD_ARG);
            Check.due(at + "has(3)", x.has(3), Check.BAD_ARG);
            Check.due(at + "value(4)", x.value(4), Check.BAD_ARG);
            Check.due(at + "play(3, 0)", x.play(3, 0), Check.BAD_ARG);
            Check.due(at + "play(6, 0)", x.play(6, 0), Check.BAD_ARG);
            Check.dueAsNew(at + "after calls refused with BAD_ARG", x, p[0], p[1], p[2]);
            for (int game = 0; game < 8; game++) {
                int none = x.winning(game);
                Check.due(at + "winningMove(" + game + ", " + none + ")", x.winningMove(game, none), Check.NONE);
                if (game != 3 && game != 6) {
                    Check.due(at + "play(" + game + ", " + none + ")", x.play(game, none), Check.NONE);
                }
            }
            Check.dueAsNew(at + "after calls refused with NONE", x, p[0], p[1], p[2]);
        }
    }

    private static void wrongGamesAreRefused() {
        Check.sentence("Terms", "In every call a game that is not 0 to 7 answers BAD_ARG");
        for (int[] p : POSITIONS) {
            for (int game : Check.outside(0, 7)) {
                HeapGames x = Check.with(p[0], p[1], p[2]);
                Check.due("won(" + game + ")", x.won(game), Check.BAD_ARG);
                Check.due("moves(" + game + ")", x.moves(game), Check.BAD_ARG);
                Check.due("winning(" + game + ")", x.winning(game), Check.BAD_ARG);
                Check.due("winningMove(" + game + ", 0)", x.winningMove(game, 0), Check.BAD_ARG);
                Check.due("value(" + game + ")", x.value(game), Check.BAD_ARG);
                Check.due("play(" + game + ", 0)", x.play(game, 0), Check.BAD_ARG);
                Check.dueAsNew("after game " + game, x, p[0], p[1], p[2]);
            }
        }
    }

    private static void wrongGamesAreRefusedFirst() {
        Check.sentence("Terms", "tested first");
        for (int[] p : POSITIONS) {
            for (int game : new int[] {Integer.MIN_VALUE, -4, -1, 8, 9, Integer.MAX_VALUE}) {
                for (int i : new int[] {Integer.MIN_VALUE, -1, 0, 1, 2, 720, Integer.MAX_VALUE}) {
                    HeapGames x = Check.with(p[0], p[1], p[2]);
                    String args = "(" + game + ", " + i + ")";
                    Check.due("winningMove" + args, x.winningMove(game, i), Check.BAD_ARG);
                    Check.due("play" + args, x.play(game, i), Check.BAD_ARG);
                    Check.dueAsNew("after game " + game, x, p[0], p[1], p[2]);
                }
            }
        }
    }

    private static void leastAndGreatestGame() {
        Check.sentence("Terms", "a game that is not 0 to 7 (games 0 and 7 themselves are games)");
        HeapGames x = Check.with(0, 0, 5);
        for (int game : new int[] {0, 7}) {
            boolean isNim = game == 0;
            Check.due("won(" + game + ")", x.won(game), 1);
            Check.due("moves(" + game + ")", x.moves(game), isNim ? 5 : 3);
            Check.due("winning(" + game + ")", x.winning(game), 1);
            Check.due("winningMove(" + game + ", 0)", x.winningMove(game, 0), isNim ? 0 : 4 * 1024);
            Check.due("value(" + game + ")", x.value(game), isNim ? 5 : 1);
        }
        Check.due("play(7, 0)", x.play(7, 0), 0);
        Check.dueHeaps("play(7, 0)", x, 0, 0, 4);
        Check.due("play(0, 0)", x.play(0, 0), 0);
        Check.dueHeaps("play(0, 0)", x, 0, 0, 0);
    }

    private static void constantsAreTheCodes() {
        Check.sentence("Terms", "The constants: `BAD_ARG = -1`, `NONE = -4`");
        HeapGames x = new HeapGames();
        Check.due("has(3)", x.has(3), HeapGames.BAD_ARG);
        Check.due("winningMove(0, 0)", x.winningMove(0, 0), HeapGames.NONE);
        Check.due("BAD_ARG", HeapGames.BAD_ARG, -1);
        Check.due("NONE", HeapGames.NONE, -4);
    }
}
