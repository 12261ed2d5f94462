/** Sorts five signed markers by turning pieces of the row around. */
public final class GenomeSorter {
    public static final int NONE = -1;

    private static final int PLACES = 5;
    private static final int BASE = 11;
    private static final int CODES = 161051;
    private static final int ROWS = 3840;
    private static final int SIGN_CHOICES = 32;
    private static final int TURN_BASE = 8;
    private static final int SORTED = 159440;
    private static final int MOST_SORTING_TURNS = 9;

    // Distance plus one, by code, so that the 0 of a new array means "no row has this code".
    private final byte[] distancePlusOne = new byte[CODES];
    private final int[] reached = new int[ROWS];
    private int rowCode = SORTED;

    public GenomeSorter() {
        measureAllRows();
    }

    public boolean load(int code) {
        if (distanceOf(code) == NONE) {
            return false;
        }
        rowCode = code;
        return true;
    }

    public int code() {
        return rowCode;
    }

    public int at(int p) {
        return isPlace(p) ? markerIn(rowCode, p) : 0;
    }

    public boolean turn(int i, int j) {
        if (!isPiece(i, j)) {
            return false;
        }
        rowCode = turned(rowCode, i, j);
        return true;
    }

    public boolean swap(int p, int q) {
        if (p == q || !isPlace(p) || !isPlace(q)) {
            return false;
        }
        rowCode = swapped(rowCode, p, q);
        return true;
    }

    public boolean flip(int p) {
        if (!isPlace(p)) {
            return false;
        }
        rowCode = turned(rowCode, p, p);
        return true;
    }

    public int distance() {
        return distanceOf(rowCode);
    }

    public int distanceAfter(int i, int j) {
        return isPiece(i, j) ? distanceOfTurned(i, j) : NONE;
    }

    // A turn undoes itself, so one turn never brings the distance down by more than one.
    public int goodTurns() {
        int now = distanceOf(rowCode);
        return turnsLeadingTo(now - 1);
    }

    public int firstGood() {
        int now = distanceOf(rowCode);
        for (int i = 0; i < PLACES; i++) {
            for (int j = i; j < PLACES; j++) {
                if (distanceOfTurned(i, j) < now) {
                    return TURN_BASE * i + j;
                }
            }
        }
        return NONE;
    }

    public int sort(int n) {
        int most = n > MOST_SORTING_TURNS ? MOST_SORTING_TURNS : n;
        int done = 0;
        while (done < most) {
            int good = firstGood();
            if (good == NONE) {
                break;
            }
            rowCode = turned(rowCode, good / TURN_BASE, good % TURN_BASE);
            done++;
        }
        return done;
    }

    public int breaks() {
        int count = 0;
        int before = 0;
        for (int p = 0; p <= PLACES; p++) {
            int marker = p < PLACES ? markerIn(rowCode, p) : PLACES + 1;
            if (marker != before + 1) {
                count++;
            }
            before = marker;
        }
        return count;
    }

    public int worstSigns() {
        int worst = distanceOf(rowCode);
        for (int choice = 0; choice < SIGN_CHOICES; choice++) {
            int other = distanceWithSigns(choice);
            worst = other > worst ? other : worst;
        }
        return worst;
    }

    public int bestSigns() {
        int best = distanceOf(rowCode);
        for (int choice = 0; choice < SIGN_CHOICES; choice++) {
            int other = distanceWithSigns(choice);
            best = other < best ? other : best;
        }
        return best;
    }

    public int idleTurns() {
        int now = distanceOf(rowCode);
        return turnsLeadingTo(now);
    }

    // A turn undoes itself, so a row is as far from the sorted row as the sorted row is from it;
    // and turns reach every row, so the codes that are not reached are no rows.
    private void measureAllRows() {
        distancePlusOne[SORTED] = 1;
        reached[0] = SORTED;
        int count = 1;
        for (int k = 0; k < count && k < ROWS; k++) {
            count = reachFrom(reached[k], count);
        }
    }

    private int reachFrom(int from, int countBefore) {
        int count = countBefore;
        int there = distanceOf(from) + 2;
        for (int i = 0; i < PLACES; i++) {
            for (int j = i; j < PLACES; j++) {
                int next = turned(from, i, j);
                if (isUnreached(next) && count < ROWS) {
                    distancePlusOne[next] = (byte) there;
                    reached[count] = next;
                    count++;
                }
            }
        }
        return count;
    }

    private boolean isUnreached(int code) {
        return isInTable(code) && distancePlusOne[code] == 0;
    }

    private int distanceOf(int code) {
        return isInTable(code) ? distancePlusOne[code] - 1 : NONE;
    }

    private int distanceOfTurned(int i, int j) {
        int after = turned(rowCode, i, j);
        return distanceOf(after);
    }

    private int distanceWithSigns(int choice) {
        int changed = withSignsChanged(rowCode, choice);
        return distanceOf(changed);
    }

    private int turnsLeadingTo(int wanted) {
        int count = 0;
        for (int i = 0; i < PLACES; i++) {
            for (int j = i; j < PLACES; j++) {
                if (distanceOfTurned(i, j) == wanted) {
                    count++;
                }
            }
        }
        return count;
    }

    private static boolean isInTable(int code) {
        return code >= 0 && code < CODES;
    }

    private static boolean isPlace(int p) {
        return p >= 0 && p < PLACES;
    }

    private static boolean isPiece(int i, int j) {
        return i >= 0 && i <= j && j < PLACES;
    }

    private static int markerIn(int code, int p) {
        int rest = code;
        for (int k = 0; k < p; k++) {
            rest = rest / BASE;
        }
        return rest % BASE - PLACES;
    }

    // The three below build the new code from its highest place down, so no powers are needed.

    private static int turned(int code, int i, int j) {
        int result = 0;
        for (int p = PLACES - 1; p >= 0; p--) {
            boolean inPiece = p >= i && p <= j;
            int marker = inPiece ? -markerIn(code, i + j - p) : markerIn(code, p);
            result = result * BASE + marker + PLACES;
        }
        return result;
    }

    private static int swapped(int code, int p, int q) {
        int result = 0;
        for (int place = PLACES - 1; place >= 0; place--) {
            int from = place == p ? q : place == q ? p : place;
            result = result * BASE + markerIn(code, from) + PLACES;
        }
        return result;
    }

    private static int withSignsChanged(int code, int choice) {
        int result = 0;
        for (int p = PLACES - 1; p >= 0; p--) {
            int marker = markerIn(code, p);
            boolean changes = (choice >> p & 1) == 1;
            result = result * BASE + (changes ? -marker : marker) + PLACES;
        }
        return result;
    }
}
