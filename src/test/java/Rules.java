import java.util.ArrayList;
import java.util.HashMap;
import java.util.List;
import java.util.Map;
import java.util.TreeMap;

/**
 * The eight games straight from the document's words, by trying every move to
 * the end. It knows nothing of the theory that HeapGames uses.
 *
 * A position is an array: the three heaps, or in game 6 the heap, the most that
 * may be taken, and 0.
 */
final class Rules {
    private final int game;
    private final Map<List<Integer>, Boolean> known = new HashMap<>();
    private final Map<List<Integer>, Integer> values = new HashMap<>();

    Rules(int game) {
        this.game = game;
    }

    int[] start(int a, int b, int c) {
        if (game == 6) {
            return new int[] {Math.min(60, a + 16 * b), c, 0};
        }
        return new int[] {a, b, c};
    }

    boolean won(int[] p) {
        List<Integer> key = List.of(p[0], p[1], p[2]);
        Boolean answer = known.get(key);
        if (answer == null) {
            Map<Integer, int[]> all = moves(p);
            answer = all.isEmpty() && game == 1;
            for (int[] after : all.values()) {
                answer = answer || !won(after);
            }
            known.put(key, answer);
        }
        return answer;
    }

    int value(int[] p) {
        List<Integer> key = List.of(p[0], p[1], p[2]);
        Integer answer = values.get(key);
        if (answer == null) {
            List<Integer> reached = new ArrayList<>();
            for (int[] after : moves(p).values()) {
                reached.add(value(after));
            }
            answer = 0;
            while (reached.contains(answer)) {
                answer++;
            }
            values.put(key, answer);
        }
        return answer;
    }

    /** The numbers of the winning moves, the least first. */
    List<Integer> winning(int[] p) {
        List<Integer> numbers = new ArrayList<>();
        for (Map.Entry<Integer, int[]> move : moves(p).entrySet()) {
            if (!won(move.getValue())) {
                numbers.add(move.getKey());
            }
        }
        return numbers;
    }

    /** Every move's number, with the position that it makes. */
    TreeMap<Integer, int[]> moves(int[] p) {
        TreeMap<Integer, int[]> all = new TreeMap<>();
        switch (game) {
            case 0, 1 -> takeFromOne(all, p, 15);
            case 2 -> {
                takeFromOne(all, p, 15);
                takeFromTwo(all, p);
            }
            case 3 -> passDown(all, p);
            case 4 -> takeWythoff(all, p);
            case 5 -> takeMultiples(all, p);
            case 6 -> {
                for (int k = 1; k <= p[0] && k <= p[1]; k++) {
                    all.put(k, new int[] {p[0] - k, 2 * k, 0});
                }
            }
            default -> takeFromOne(all, p, 3);
        }
        return all;
    }

    private static void put(Map<Integer, int[]> all, int a, int b, int c) {
        all.put(a + 32 * b + 1024 * c, new int[] {a, b, c});
    }

    private static void takeFromOne(Map<Integer, int[]> all, int[] p, int most) {
        for (int i = 0; i < 3; i++) {
            for (int k = 1; k <= p[i] && k <= most; k++) {
                int[] q = p.clone();
                q[i] -= k;
                put(all, q[0], q[1], q[2]);
            }
        }
    }

    private static void takeFromTwo(Map<Integer, int[]> all, int[] p) {
        for (int spared = 0; spared < 3; spared++) {
            int i = (spared + 1) % 3;
            int j = (spared + 2) % 3;
            for (int k = 1; k <= p[i]; k++) {
                for (int m = 1; m <= p[j]; m++) {
                    int[] q = p.clone();
                    q[i] -= k;
                    q[j] -= m;
                    put(all, q[0], q[1], q[2]);
                }
            }
        }
    }

    private static void passDown(Map<Integer, int[]> all, int[] p) {
        for (int k = 1; k <= p[2]; k++) {
            put(all, p[0], p[1] + k, p[2] - k);
        }
        for (int k = 1; k <= p[1]; k++) {
            put(all, p[0] + k, p[1] - k, p[2]);
        }
        for (int k = 1; k <= p[0]; k++) {
            put(all, p[0] - k, p[1], p[2]);
        }
    }

    private static void takeWythoff(Map<Integer, int[]> all, int[] p) {
        for (int k = 0; k <= p[0]; k++) {
            for (int m = 0; m <= p[1]; m++) {
                if (k + m > 0 && (k == 0 || m == 0 || k == m)) {
                    put(all, p[0] - k, p[1] - m, p[2]);
                }
            }
        }
    }

    private static void takeMultiples(Map<Integer, int[]> all, int[] p) {
        if (p[0] == 0 || p[1] == 0) {
            return;
        }
        if (p[0] >= p[1]) {
            for (int k = p[1]; k <= p[0]; k += p[1]) {
                put(all, p[0] - k, p[1], p[2]);
            }
        }
        if (p[1] >= p[0]) {
            for (int k = p[0]; k <= p[1]; k += p[0]) {
                put(all, p[0], p[1] - k, p[2]);
            }
        }
    }
}
