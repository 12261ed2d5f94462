import java.util.ArrayList;
import java.util.HashMap;
import java.util.List;
import java.util.Map;

// The document's words over lists, with no thought of speed: what GenomeSorter is held against.
final class RowModel {
    static final List<List<Integer>> ROWS = new ArrayList<>();
    static final Map<List<Integer>, Integer> DISTANCES = new HashMap<>();
    private static final Map<Integer, List<Integer>> ROWS_BY_CODE = new HashMap<>();

    static {
        addRows(new ArrayList<>());
        measureRows();
        for (List<Integer> each : ROWS) {
            ROWS_BY_CODE.put(codeOf(each), each);
        }
    }

    private List<Integer> row = List.of(1, 2, 3, 4, 5);

    static RowModel of(List<Integer> row) {
        RowModel model = new RowModel();
        model.row = row;
        return model;
    }

    boolean load(int code) {
        row = ROWS_BY_CODE.getOrDefault(code, row);
        return ROWS_BY_CODE.containsKey(code);
    }

    int code() {
        return codeOf(row);
    }

    int at(int p) {
        return isPlace(p) ? row.get(p) : 0;
    }

    boolean turn(int i, int j) {
        row = isPiece(i, j) ? turned(row, i, j) : row;
        return isPiece(i, j);
    }

    boolean swap(int p, int q) {
        if (p == q || !isPlace(p) || !isPlace(q)) {
            return false;
        }
        List<Integer> result = new ArrayList<>(row);
        result.set(p, row.get(q));
        result.set(q, row.get(p));
        row = result;
        return true;
    }

    boolean flip(int p) {
        if (!isPlace(p)) {
            return false;
        }
        List<Integer> result = new ArrayList<>(row);
        result.set(p, -row.get(p));
        row = result;
        return true;
    }

    int distance() {
        return DISTANCES.get(row);
    }

    int distanceAfter(int i, int j) {
        return isPiece(i, j) ? DISTANCES.get(turned(row, i, j)) : -1;
    }

    int goodTurns() {
        int count = 0;
        for (int[] piece : pieces()) {
            count += distanceAfter(piece[0], piece[1]) < distance() ? 1 : 0;
        }
        return count;
    }

    int firstGood() {
        for (int[] piece : pieces()) {
            if (distanceAfter(piece[0], piece[1]) < distance()) {
                return 8 * piece[0] + piece[1];
            }
        }
        return -1;
    }

    int sort(int n) {
        int most = Math.max(0, Math.min(n, 9));
        int done = 0;
        for (; done < most && firstGood() != -1; done++) {
            row = turned(row, firstGood() / 8, firstGood() % 8);
        }
        return done;
    }

    int breaks() {
        List<Integer> framed = new ArrayList<>(row);
        framed.add(0, 0);
        framed.add(6);
        int count = 0;
        for (int p = 0; p <= 5; p++) {
            count += framed.get(p + 1) != framed.get(p) + 1 ? 1 : 0;
        }
        return count;
    }

    int worstSigns() {
        return distancesWithOtherSigns().stream().max(Integer::compare).get();
    }

    int bestSigns() {
        return distancesWithOtherSigns().stream().min(Integer::compare).get();
    }

    int idleTurns() {
        int count = 0;
        for (int[] piece : pieces()) {
            count += distanceAfter(piece[0], piece[1]) == distance() ? 1 : 0;
        }
        return count;
    }

    static int codeOf(List<Integer> row) {
        return Due.codeOf(row.stream().mapToInt(Integer::intValue).toArray());
    }

    private List<Integer> distancesWithOtherSigns() {
        List<Integer> found = new ArrayList<>();
        for (int choice = 0; choice < 32; choice++) {
            RowModel other = of(row);
            for (int p = 0; p < 5; p++) {
                if ((choice & (1 << p)) != 0) {
                    other.flip(p);
                }
            }
            found.add(other.distance());
        }
        return found;
    }

    private static void addRows(List<Integer> start) {
        if (start.size() == 5) {
            ROWS.add(List.copyOf(start));
            return;
        }
        for (int marker = -5; marker <= 5; marker++) {
            if (marker != 0 && !start.contains(marker) && !start.contains(-marker)) {
                start.add(marker);
                addRows(start);
                start.remove(start.size() - 1);
            }
        }
    }

    // A row has distance d when a turn of it leads to one of distance d - 1, and none to a lower one.
    private static void measureRows() {
        DISTANCES.put(List.of(1, 2, 3, 4, 5), 0);
        for (int d = 1; DISTANCES.size() < ROWS.size() && d < 20; d++) {
            List<List<Integer>> level = new ArrayList<>();
            for (List<Integer> row : ROWS) {
                if (!DISTANCES.containsKey(row) && leadsToMeasured(row)) {
                    level.add(row);
                }
            }
            for (List<Integer> row : level) {
                DISTANCES.put(row, d);
            }
        }
    }

    private static boolean leadsToMeasured(List<Integer> row) {
        for (int[] piece : pieces()) {
            if (DISTANCES.containsKey(turned(row, piece[0], piece[1]))) {
                return true;
            }
        }
        return false;
    }

    private static List<int[]> pieces() {
        List<int[]> pieces = new ArrayList<>();
        for (int i = 0; i < 5; i++) {
            for (int j = i; j < 5; j++) {
                pieces.add(new int[] {i, j});
            }
        }
        return pieces;
    }

    private static List<Integer> turned(List<Integer> row, int i, int j) {
        List<Integer> result = new ArrayList<>(row);
        for (int k = 0; k <= j - i; k++) {
            result.set(i + k, -row.get(j - k));
        }
        return result;
    }

    private static boolean isPlace(int p) {
        return 0 <= p && p <= 4;
    }

    private static boolean isPiece(int i, int j) {
        return 0 <= i && i <= j && j <= 4;
    }
}
