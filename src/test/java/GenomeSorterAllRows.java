import java.util.ArrayList;
import java.util.Arrays;
import java.util.HashMap;
import java.util.HashSet;
import java.util.List;
import java.util.Map;
import java.util.Set;

// Every row and every code, against a model that follows the document's words over lists.
public final class GenomeSorterAllRows {
    private static final int CALLS_OF_AN_OBJECT = 512;
    private static final int SORTED = 159440;

    private static final List<List<Integer>> rows = new ArrayList<>();
    private static final Map<List<Integer>, Integer> distances = new HashMap<>();
    private static int calls = 0;
    private static GenomeSorter object = new GenomeSorter();

    public static void main(String[] args) {
        Due.test("the model", GenomeSorterAllRows::makeModel);
        Due.test("every code", GenomeSorterAllRows::everyCode);
        Due.test("every row: questions", () -> rows.forEach(GenomeSorterAllRows::questions));
        Due.test("every row: turns", () -> rows.forEach(GenomeSorterAllRows::turns));
        Due.test("every row: changes", () -> rows.forEach(GenomeSorterAllRows::changes));
        Due.test("every row: sorting", () -> rows.forEach(GenomeSorterAllRows::sorting));
        Due.end();
    }

    private static void makeModel() {
        addRows(new ArrayList<>());
        Due.answer("the number of rows", rows.size(), 3840);
        measureRows();
    }

    private static void addRows(List<Integer> start) {
        if (start.size() == 5) {
            rows.add(new ArrayList<>(start));
            return;
        }
        for (int marker = -5; marker <= 5; marker++) {
            if (marker != 0 && !start.contains(marker) && !start.contains(-marker)) {
                start.add(marker);
                addRows(start);
                start.remove(start.size() - 1);
            }
        }
    }

    // A row has distance d when a turn of it leads to one of distance d - 1, and none to a lower one.
    private static void measureRows() {
        distances.put(List.of(1, 2, 3, 4, 5), 0);
        for (int d = 1; distances.size() < rows.size() && d < 20; d++) {
            List<List<Integer>> level = new ArrayList<>();
            for (List<Integer> row : rows) {
                if (!distances.containsKey(row) && leadsToMeasured(row)) {
                    level.add(row);
                }
            }
            for (List<Integer> row : level) {
                distances.put(row, d);
            }
        }
        Due.answer("the number of measured rows", distances.size(), rows.size());
    }

    private static boolean leadsToMeasured(List<Integer> row) {
        for (int i = 0; i < 5; i++) {
            for (int j = i; j < 5; j++) {
                if (distances.containsKey(turned(row, i, j))) {
                    return true;
                }
            }
        }
        return false;
    }

    private static void everyCode() {
        Set<Integer> codes = new HashSet<>();
        for (List<Integer> row : rows) {
            codes.add(codeOf(row));
        }
        int held = SORTED;
        for (int code = -200; code < 161051 + 200; code++) {
            if (calls + 2 > CALLS_OF_AN_OBJECT) {
                renew();
                held = SORTED;
            }
            calls += 2;
            boolean isRow = codes.contains(code);
            Due.answer("load(" + code + ")", object.load(code), isRow);
            held = isRow ? code : held;
            Due.answer("code after load(" + code + ")", object.code(), held);
        }
    }

    private static void questions(List<Integer> row) {
        GenomeSorter x = loaded(row, 20);
        int now = distances.get(row);
        Due.answer(row + " code", x.code(), codeOf(row));
        for (int p = -2; p < 7; p++) {
            Due.answer(row + " at " + p, x.at(p), isPlace(p) ? row.get(p) : 0);
        }
        Due.answer(row + " distance", x.distance(), now);
        Due.answer(row + " breaks", x.breaks(), breaksOf(row));
        int worst = now;
        int best = now;
        for (int choice = 0; choice < 32; choice++) {
            List<Integer> other = new ArrayList<>(row);
            for (int p = 0; p < 5; p++) {
                if ((choice & (1 << p)) != 0) {
                    other.set(p, -row.get(p));
                }
            }
            worst = Math.max(worst, distances.get(other));
            best = Math.min(best, distances.get(other));
        }
        Due.answer(row + " worstSigns", x.worstSigns(), worst);
        Due.answer(row + " bestSigns", x.bestSigns(), best);
        Due.answer(row + " code after the questions", x.code(), codeOf(row));
    }

    private static void turns(List<Integer> row) {
        GenomeSorter x = loaded(row, 54);
        int now = distances.get(row);
        int good = 0;
        int idle = 0;
        for (int i = -1; i < 6; i++) {
            for (int j = -1; j < 6; j++) {
                int after = isPiece(i, j) ? distances.get(turned(row, i, j)) : -1;
                Due.answer(row + " distanceAfter " + i + ", " + j, x.distanceAfter(i, j), after);
                good += isPiece(i, j) && after < now ? 1 : 0;
                idle += isPiece(i, j) && after == now ? 1 : 0;
            }
        }
        Due.answer(row + " goodTurns", x.goodTurns(), good);
        Due.answer(row + " idleTurns", x.idleTurns(), idle);
        Due.answer(row + " firstGood", x.firstGood(), firstGoodOf(row));
        Due.answer(row + " code after asking for turns", x.code(), codeOf(row));
    }

    private static void changes(List<Integer> row) {
        for (int p = -1; p < 6; p++) {
            for (int q = -1; q < 6; q++) {
                GenomeSorter x = loaded(row, 3);
                Due.answer(row + " turn " + p + ", " + q, x.turn(p, q), isPiece(p, q));
                Due.answer(row + " code after turn " + p + ", " + q, x.code(),
                    codeOf(isPiece(p, q) ? turned(row, p, q) : row));
                x = loaded(row, 3);
                boolean swaps = p != q && isPlace(p) && isPlace(q);
                Due.answer(row + " swap " + p + ", " + q, x.swap(p, q), swaps);
                Due.answer(row + " code after swap " + p + ", " + q, x.code(),
                    codeOf(swaps ? swapped(row, p, q) : row));
            }
            GenomeSorter x = loaded(row, 3);
            Due.answer(row + " flip " + p, x.flip(p), isPlace(p));
            Due.answer(row + " code after flip " + p, x.code(), codeOf(isPlace(p) ? flipped(row, p) : row));
        }
    }

    private static void sorting(List<Integer> row) {
        for (int n = -1; n < 11; n++) {
            List<Integer> end = row;
            int done = 0;
            while (done < n && done < 9 && firstGoodOf(end) != -1) {
                int good = firstGoodOf(end);
                end = turned(end, good / 8, good % 8);
                done++;
            }
            GenomeSorter x = loaded(row, 3);
            Due.answer(row + " sort " + n, x.sort(n), done);
            Due.answer(row + " code after sort " + n, x.code(), codeOf(end));
        }
    }

    private static int firstGoodOf(List<Integer> row) {
        for (int i = 0; i < 5; i++) {
            for (int j = i; j < 5; j++) {
                if (distances.get(turned(row, i, j)) < distances.get(row)) {
                    return 8 * i + j;
                }
            }
        }
        return -1;
    }

    private static int breaksOf(List<Integer> row) {
        List<Integer> framed = new ArrayList<>(row);
        framed.add(0, 0);
        framed.add(6);
        int count = 0;
        for (int p = 0; p <= 5; p++) {
            count += framed.get(p + 1) != framed.get(p) + 1 ? 1 : 0;
        }
        return count;
    }

    private static List<Integer> turned(List<Integer> row, int i, int j) {
        Integer[] result = row.toArray(new Integer[0]);
        for (int k = 0; k <= j - i; k++) {
            result[i + k] = -row.get(j - k);
        }
        return Arrays.asList(result);
    }

    private static List<Integer> swapped(List<Integer> row, int p, int q) {
        List<Integer> result = new ArrayList<>(row);
        result.set(p, row.get(q));
        result.set(q, row.get(p));
        return result;
    }

    private static List<Integer> flipped(List<Integer> row, int p) {
        List<Integer> result = new ArrayList<>(row);
        result.set(p, -row.get(p));
        return result;
    }

    private static int codeOf(List<Integer> row) {
        int power = 1;
        int sum = 0;
        for (int marker : row) {
            sum += power * (marker + 5);
            power *= 11;
        }
        return sum;
    }

    private static boolean isPlace(int p) {
        return 0 <= p && p <= 4;
    }

    private static boolean isPiece(int i, int j) {
        return 0 <= i && i <= j && j <= 4;
    }

    // The answers are free after an object's 512th call, so none is used for more.
    private static GenomeSorter loaded(List<Integer> row, int callsToCome) {
        if (calls + callsToCome > CALLS_OF_AN_OBJECT) {
            renew();
        }
        calls += callsToCome;
        Due.answer("load of " + row, object.load(codeOf(row)), true);
        return object;
    }

    private static void renew() {
        object = new GenomeSorter();
        calls = 0;
    }
}
