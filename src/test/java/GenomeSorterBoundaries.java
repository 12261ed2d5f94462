import java.util.function.Consumer;
import java.util.function.Predicate;
import java.util.function.ToIntFunction;

// One test or more for each sentence of the document that names a boundary case, in the document's order.
public final class GenomeSorterBoundaries {
    private static final int LEAST = Integer.MIN_VALUE;
    private static final int GREATEST = Integer.MAX_VALUE;

    // Some of these would be places if they were cut down to fewer bits, to a remainder or to their size.
    private static final int[] TOO_SMALL = {
        -1, -2, -4, -5, -8, -10, -11, -254, -256, -65534, -65536, -GREATEST, LEAST + 4, LEAST,
    };
    private static final int[] TOO_LARGE = {
        5, 6, 7, 8, 10, 11, 16, 32, 64, 128, 256, 258, 65536, 65538, 1 << 30, GREATEST - 4, GREATEST,
    };

    private static final int CODES = 161051;
    private static final int LEAST_CODE = 1610;
    private static final int GREATEST_CODE = 159440;

    private static final int[] HELD = {2, -3, 5, 1, -4};
    private static final int HELD_DISTANCE = 5;
    private static final int[] FARTHEST = {2, 1, 3, 5, 4};

    public static void main(String[] args) {
        whatItIs();
        terms();
        newAndLoad();
        places();
        changes();
        questions();
        sorting();
        countsAndSigns();
        Due.end();
    }

    private static void whatItIs() {
        Due.test("512 calls: every answer of a run", GenomeSorterBoundaries::everyCallOfALife);
        Due.test("512 calls: the last one is any question", GenomeSorterBoundaries::lastCallAsks);
        Due.test("512 calls: the last but one is any change", GenomeSorterBoundaries::lastCallButOneChanges);
        Due.test("512 calls: refused ones wear nothing out", GenomeSorterBoundaries::lifeOfRefusedCalls);
        Due.test("512 calls: later ones do not throw", GenomeSorterBoundaries::callsAfterTheLast);
        Due.test("no call throws, whatever its arguments", GenomeSorterBoundaries::anyArguments);
    }

    private static void terms() {
        Due.test("ROW: -5 and 5 stand at every place", GenomeSorterBoundaries::outermostMarkers);
        Due.test("ROW: 0 is no marker", GenomeSorterBoundaries::zeroIsNoMarker);
        Due.test("ROW: no marker stands twice", GenomeSorterBoundaries::noMarkerTwice);
        Due.test("TURNING: a piece of one marker", GenomeSorterBoundaries::turnOfOne);
        Due.test("TURNING: the whole row", GenomeSorterBoundaries::turnOfAll);
        Due.test("TURNING: a piece at either end", GenomeSorterBoundaries::turnAtTheEnds);
        Due.test("SORTED: only 1, 2, 3, 4, 5", GenomeSorterBoundaries::onlyOneRowIsSorted);
        Due.test("GOOD: not when the distance stays", GenomeSorterBoundaries::idleIsNotGood);
        Due.test("CODE: the least and the greatest", GenomeSorterBoundaries::outermostCodes);
    }

    private static void newAndLoad() {
        Due.test("1: nothing is left to do on a new object", GenomeSorterBoundaries::newObject);
        Due.test("2: the row's own code", GenomeSorterBoundaries::loadOfTheSame);
        Due.test("2: a code too small", GenomeSorterBoundaries::loadTooSmall);
        Due.test("2: a code too large", GenomeSorterBoundaries::loadTooLarge);
        Due.test("2: a code that wraps around to a row's", GenomeSorterBoundaries::loadWrapped);
        Due.test("2: a code between rows", GenomeSorterBoundaries::loadBetweenRows);
        Due.test("3: the code after a refused load", GenomeSorterBoundaries::codeAfterRefusedLoad);
    }

    private static void places() {
        Due.test("4: the first and the last place", GenomeSorterBoundaries::atTheEnds);
        Due.test("4: p too small", () -> atOutside(TOO_SMALL));
        Due.test("4: p too large", () -> atOutside(TOO_LARGE));
    }

    private static void changes() {
        Due.test("5: i too small", GenomeSorterBoundaries::turnFromTooSmall);
        Due.test("5: j too large", GenomeSorterBoundaries::turnToTooLarge);
        Due.test("5: i above j", GenomeSorterBoundaries::turnBackwards);
        Due.test("5: both outside", GenomeSorterBoundaries::turnOutside);
        Due.test("6: the first and the last place", GenomeSorterBoundaries::swapOfTheEnds);
        Due.test("6: p = q", GenomeSorterBoundaries::swapOfOne);
        Due.test("6: one place too small", () -> swapOutside(TOO_SMALL));
        Due.test("6: one place too large", () -> swapOutside(TOO_LARGE));
        Due.test("6: both outside", GenomeSorterBoundaries::swapBothOutside);
        Due.test("7: the first and the last place", GenomeSorterBoundaries::flipOfTheEnds);
        Due.test("7: p too small", () -> flipOutside(TOO_SMALL));
        Due.test("7: p too large", () -> flipOutside(TOO_LARGE));
    }

    private static void questions() {
        Due.test("8: the least distance is 0", GenomeSorterBoundaries::leastDistance);
        Due.test("8: the greatest distance is 6", GenomeSorterBoundaries::greatestDistance);
        Due.test("9: 0 is not NONE", GenomeSorterBoundaries::distanceAfterSorting);
        Due.test("9: the greatest distance", GenomeSorterBoundaries::distanceAfterGreatest);
        Due.test("9: i too small", GenomeSorterBoundaries::distanceAfterFromTooSmall);
        Due.test("9: j too large", GenomeSorterBoundaries::distanceAfterToTooLarge);
        Due.test("9: i above j", GenomeSorterBoundaries::distanceAfterBackwards);
        Due.test("9: both outside", GenomeSorterBoundaries::distanceAfterOutside);
        Due.test("10: no turn is good", GenomeSorterBoundaries::noGoodTurns);
        Due.test("10: only one turn is good", GenomeSorterBoundaries::oneGoodTurn);
        Due.test("10: every turn is good", GenomeSorterBoundaries::allGoodTurns);
        Due.test("11: NONE when there is none", GenomeSorterBoundaries::firstGoodOfNone);
        Due.test("11: the first and the last piece", GenomeSorterBoundaries::firstGoodAtTheEnds);
        Due.test("11: in the order of i and then of j", GenomeSorterBoundaries::firstGoodOrder);
    }

    private static void sorting() {
        Due.test("12: at most n times", GenomeSorterBoundaries::sortStopsAtN);
        Due.test("12: n is 0", GenomeSorterBoundaries::sortNone);
        Due.test("12: n below 0 counts as 0", GenomeSorterBoundaries::sortBelowZero);
        Due.test("12: n is 9", GenomeSorterBoundaries::sortNine);
        Due.test("12: n above 9 counts as 9", GenomeSorterBoundaries::sortAboveNine);
        Due.test("12: as often as there was a good turn", GenomeSorterBoundaries::sortRunsOut);
        Due.test("12: a sorted row", GenomeSorterBoundaries::sortOfSorted);
        Due.test("12: the first of several good turns", GenomeSorterBoundaries::sortTakesTheFirst);
    }

    private static void countsAndSigns() {
        Due.test("13: no place", GenomeSorterBoundaries::noBreaks);
        Due.test("13: all six places", GenomeSorterBoundaries::allBreaks);
        Due.test("13: place 0, after the 0 put before", GenomeSorterBoundaries::breakAtTheFront);
        Due.test("13: place 5, before the 6 put after", GenomeSorterBoundaries::breakAtTheEnd);
        Due.test("13: y not x + 1, signs and all", GenomeSorterBoundaries::breaksLookAtSigns);
        Due.test("14: signs of none", GenomeSorterBoundaries::worstByNone);
        Due.test("14: signs of some", GenomeSorterBoundaries::worstBySome);
        Due.test("14: signs of all", GenomeSorterBoundaries::worstByAll);
        Due.test("15: signs of none", GenomeSorterBoundaries::bestByNone);
        Due.test("15: signs of some", GenomeSorterBoundaries::bestBySome);
        Due.test("15: signs of all", GenomeSorterBoundaries::bestByAll);
        Due.test("16: no turn is idle", GenomeSorterBoundaries::noIdleTurns);
        Due.test("16: all turns but two are idle", GenomeSorterBoundaries::mostIdleTurns);
    }

    // ---- What it is: an object is used for at most 512 calls

    private static void everyCallOfALife() {
        GenomeSorter x = new GenomeSorter();
        for (int call = 1; call <= 512; call += 4) {
            Due.answer("call " + call + ", swap", x.swap(0, 1), true);
            Due.answer("call " + (call + 1) + ", swap", x.swap(3, 4), true);
            Due.answer("call " + (call + 2) + ", sort", x.sort(9), 6);
            Due.answer("call " + (call + 3) + ", code", x.code(), GREATEST_CODE);
        }
    }

    private static void lastCallAsks() {
        lastCall("code()", GenomeSorter::code, Due.codeOf(FARTHEST));
        lastCall("at(3)", x -> x.at(3), 5);
        lastCall("at(5)", x -> x.at(5), 0);
        lastCall("distance()", GenomeSorter::distance, 6);
        lastCall("distanceAfter(0, 0)", x -> x.distanceAfter(0, 0), 5);
        lastCall("distanceAfter(1, 0)", x -> x.distanceAfter(1, 0), -1);
        lastCall("goodTurns()", GenomeSorter::goodTurns, 15);
        lastCall("firstGood()", GenomeSorter::firstGood, 0);
        lastCall("sort(9)", x -> x.sort(9), 6);
        lastCall("breaks()", GenomeSorter::breaks, 6);
        lastCall("worstSigns()", GenomeSorter::worstSigns, 6);
        lastCall("bestSigns()", GenomeSorter::bestSigns, 2);
        lastCall("idleTurns()", GenomeSorter::idleTurns, 0);
    }

    private static void lastCall(String call, ToIntFunction<GenomeSorter> last, int want) {
        GenomeSorter x = usedFor(511);
        Due.answer("call 512, " + call, last.applyAsInt(x), want);
    }

    private static void lastCallButOneChanges() {
        lastChange("load", x -> x.load(LEAST_CODE), -1, -2, -3, -4, -5);
        lastChange("turn", x -> x.turn(1, 3), 2, -5, -3, -1, 4);
        lastChange("swap", x -> x.swap(0, 4), 4, 1, 3, 5, 2);
        lastChange("flip", x -> x.flip(2), 2, 1, -3, 5, 4);
        lastChange("sort", x -> x.sort(9) == 6, 1, 2, 3, 4, 5);
    }

    private static void lastChange(String call, Predicate<GenomeSorter> change, int... markers) {
        GenomeSorter x = usedFor(510);
        Due.answer("call 511, " + call, change.test(x), true);
        Due.answer("call 512, code after " + call, x.code(), Due.codeOf(markers));
    }

    // The object holds FARTHEST after that many calls, of which two in three are changes.
    private static GenomeSorter usedFor(int calls) {
        GenomeSorter x = Due.loaded(FARTHEST);
        int done = 1;
        for (; done + 3 <= calls; done += 3) {
            x.turn(0, 3);
            x.turn(0, 3);
            x.worstSigns();
        }
        for (; done < calls; done++) {
            x.load(-1);
        }
        return x;
    }

    private static void lifeOfRefusedCalls() {
        GenomeSorter x = Due.loaded(HELD);
        for (int call = 2; call <= 510; call++) {
            boolean done = call % 4 == 0 ? x.load(0) : call % 4 == 1 ? x.turn(3, 2)
                : call % 4 == 2 ? x.swap(4, 4) : x.flip(5);
            Due.answer("call " + call, done, false);
        }
        Due.answer("call 511, distance", x.distance(), HELD_DISTANCE);
        Due.answer("call 512, code", x.code(), Due.codeOf(HELD));
    }

    private static void callsAfterTheLast() {
        GenomeSorter x = usedFor(512);
        for (int round = 0; round < 100; round++) {
            callAll(x, round % 7 - 1, round % 6);
        }
    }

    private static void anyArguments() {
        GenomeSorter x = new GenomeSorter();
        int[][] ranges = {TOO_SMALL, {0, 1, 2, 3, 4}, TOO_LARGE};
        for (int[] firsts : ranges) {
            for (int first : firsts) {
                for (int[] seconds : ranges) {
                    for (int second : seconds) {
                        callAll(x, first, second);
                    }
                }
            }
        }
    }

    private static void callAll(GenomeSorter x, int a, int b) {
        x.load(a);
        x.turn(a, b);
        x.swap(a, b);
        x.flip(a);
        Due.askAll(x, a, b);
        x.sort(a);
    }

    // ---- Terms

    private static void outermostMarkers() {
        for (int p = 0; p < 5; p++) {
            for (int marker : new int[] {-5, -1, 1, 5}) {
                int[] row = {1, 2, 3, 4, 5};
                int size = marker < 0 ? -marker : marker;
                row[size - 1] = row[p];
                row[p] = marker;
                Due.row("load with " + marker + " at place " + p, Due.loaded(row), row);
            }
        }
    }

    private static void zeroIsNoMarker() {
        for (int p = 0; p < 5; p++) {
            int[] row = {1, -2, 3, -4, 5};
            row[p] = 0;
            loadRefused(Due.codeOf(row));
        }
        loadRefused(Due.codeOf(0, 0, 0, 0, 0));
    }

    private static void noMarkerTwice() {
        for (int p = 0; p < 5; p++) {
            for (int q = 0; q < 5; q++) {
                int[] row = {1, -2, 3, -4, 5};
                if (p != q) {
                    row[p] = row[q];
                    loadRefused(Due.codeOf(row));
                    row[p] = -row[q];
                    loadRefused(Due.codeOf(row));
                }
            }
        }
    }

    private static void turnOfOne() {
        for (int p = 0; p < 5; p++) {
            int[] row = HELD.clone();
            row[p] = -row[p];
            GenomeSorter x = Due.loaded(HELD);
            Due.answer("turn(" + p + ", " + p + ")", x.turn(p, p), true);
            Due.row("turn(" + p + ", " + p + ")", x, row);
        }
    }

    private static void turnOfAll() {
        GenomeSorter x = Due.loaded(HELD);
        Due.answer("turn(0, 4)", x.turn(0, 4), true);
        Due.row("turn(0, 4)", x, 4, -1, -5, 3, -2);
    }

    private static void turnAtTheEnds() {
        GenomeSorter x = Due.loaded(HELD);
        Due.answer("turn(0, 1)", x.turn(0, 1), true);
        Due.row("turn(0, 1)", x, 3, -2, 5, 1, -4);
        Due.answer("turn(3, 4)", x.turn(3, 4), true);
        Due.row("turn(3, 4)", x, 3, -2, 5, 4, -1);
        Due.answer("turn(0, 3)", x.turn(0, 3), true);
        Due.row("turn(0, 3)", x, -4, -5, 2, -3, -1);
        Due.answer("turn(1, 4)", x.turn(1, 4), true);
        Due.row("turn(1, 4)", x, -4, 1, 3, -2, 5);
    }

    private static void onlyOneRowIsSorted() {
        notSorted(-1, -2, -3, -4, -5);
        notSorted(5, 4, 3, 2, 1);
        notSorted(-5, -4, -3, -2, -1);
        notSorted(2, 3, 4, 5, 1);
        notSorted(1, 2, 3, 4, -5);
        notSorted(-1, 2, 3, 4, 5);
    }

    private static void notSorted(int... row) {
        GenomeSorter x = Due.loaded(row);
        String name = "row " + Due.codeOf(row);
        Due.answer(name + ", distance() == 0", x.distance() == 0, false);
        Due.answer(name + ", sort(1)", x.sort(1), 1);
    }

    private static void idleIsNotGood() {
        GenomeSorter x = Due.loaded(3, 4, 2, 1, 5);
        Due.answer("distance()", x.distance(), 3);
        Due.answer("distanceAfter(0, 0)", x.distanceAfter(0, 0), 3);
        Due.answer("goodTurns()", x.goodTurns(), 2);
        Due.answer("firstGood()", x.firstGood(), 2);
    }

    private static void outermostCodes() {
        GenomeSorter x = new GenomeSorter();
        Due.answer("load(1610)", x.load(LEAST_CODE), true);
        Due.row("load(1610)", x, -1, -2, -3, -4, -5);
        Due.answer("load(159440)", x.load(GREATEST_CODE), true);
        Due.row("load(159440)", x, 1, 2, 3, 4, 5);
        for (int p = 0; p < 5; p++) {
            x.flip(p);
        }
        Due.answer("code() with every sign changed", x.code(), LEAST_CODE);
    }

    // ---- Promises 1 to 3

    private static void newObject() {
        Due.answer("code()", new GenomeSorter().code(), GREATEST_CODE);
        Due.answer("distance()", new GenomeSorter().distance(), 0);
        Due.answer("at(0)", new GenomeSorter().at(0), 1);
        Due.answer("at(4)", new GenomeSorter().at(4), 5);
        Due.answer("breaks()", new GenomeSorter().breaks(), 0);
    }

    private static void loadOfTheSame() {
        GenomeSorter x = Due.loaded(HELD);
        Due.answer("load of the row's own code", x.load(Due.codeOf(HELD)), true);
        Due.row("load of the row's own code", x, HELD);
    }

    private static void loadTooSmall() {
        for (int code : TOO_SMALL) {
            loadRefused(code);
        }
        loadRefused(0);
        loadRefused(LEAST_CODE - 1);
        loadRefused(-LEAST_CODE);
        loadRefused(-GREATEST_CODE);
    }

    private static void loadTooLarge() {
        loadRefused(GREATEST_CODE + 1);
        loadRefused(CODES - 1);
        loadRefused(CODES);
        loadRefused(CODES + 1);
        loadRefused(1 << 30);
        loadRefused(GREATEST - 1);
        loadRefused(GREATEST);
    }

    // Each of these has the five right digits and something more above them, or loses it when cut down.
    private static void loadWrapped() {
        for (int times : new int[] {-13334, -12, -2, -1, 1, 2, 10, 11, 12, 13332}) {
            loadRefused(LEAST_CODE + times * CODES);
            loadRefused(GREATEST_CODE + times * CODES);
        }
        loadRefused(LEAST_CODE + LEAST);
        loadRefused(GREATEST_CODE + LEAST);
        loadRefused(LEAST_CODE + (1 << 18));
        loadRefused(GREATEST_CODE + (1 << 24));
        loadRefused((short) GREATEST_CODE);
        loadRefused(GREATEST_CODE & 0xffff);
    }

    private static void loadBetweenRows() {
        loadRefused(LEAST_CODE + 1);
        loadRefused(GREATEST_CODE - 1);
        loadRefused(GREATEST_CODE - 11);
        loadRefused(62810 - 1);
        loadRefused(62810 + 1);
    }

    private static void codeAfterRefusedLoad() {
        GenomeSorter x = new GenomeSorter();
        Due.answer("load(0)", x.load(0), false);
        Due.answer("code() of a new object after load(0)", x.code(), GREATEST_CODE);
        Due.answer("load(161050)", x.load(CODES - 1), false);
        Due.answer("code() after load(161050)", x.code(), GREATEST_CODE);
    }

    private static void loadRefused(int code) {
        refused("load(" + code + ")", x -> x.load(code));
    }

    // ---- Promise 4

    private static void atTheEnds() {
        GenomeSorter x = Due.loaded(HELD);
        Due.answer("at(0)", x.at(0), 2);
        Due.answer("at(4)", x.at(4), -4);
    }

    private static void atOutside(int[] outside) {
        GenomeSorter x = Due.loaded(HELD);
        for (int p : outside) {
            Due.answer("at(" + p + ")", x.at(p), 0);
        }
        Due.row("at outside", x, HELD);
    }

    // ---- Promises 5 to 7

    private static void turnFromTooSmall() {
        for (int i : TOO_SMALL) {
            turnRefused(i, 0);
            turnRefused(i, 4);
        }
    }

    private static void turnToTooLarge() {
        for (int j : TOO_LARGE) {
            turnRefused(0, j);
            turnRefused(4, j);
        }
    }

    private static void turnBackwards() {
        for (int i = 1; i < 5; i++) {
            for (int j = 0; j < i; j++) {
                turnRefused(i, j);
            }
        }
    }

    private static void turnOutside() {
        for (int p : TOO_SMALL) {
            turnRefused(p, p);
            turnRefused(4, p);
        }
        for (int p : TOO_LARGE) {
            turnRefused(p, p);
            turnRefused(p, 0);
        }
        turnRefused(-1, 5);
        turnRefused(5, -1);
        turnRefused(LEAST, GREATEST);
        turnRefused(GREATEST, LEAST);
    }

    private static void turnRefused(int i, int j) {
        refused("turn(" + i + ", " + j + ")", x -> x.turn(i, j));
    }

    private static void swapOfTheEnds() {
        GenomeSorter x = Due.loaded(HELD);
        Due.answer("swap(0, 4)", x.swap(0, 4), true);
        Due.row("swap(0, 4)", x, -4, -3, 5, 1, 2);
        Due.answer("swap(4, 3)", x.swap(4, 3), true);
        Due.row("swap(4, 3)", x, -4, -3, 5, 2, 1);
        Due.answer("swap(1, 0)", x.swap(1, 0), true);
        Due.row("swap(1, 0)", x, -3, -4, 5, 2, 1);
    }

    private static void swapOfOne() {
        for (int p = 0; p < 5; p++) {
            swapRefused(p, p);
        }
    }

    private static void swapOutside(int[] outside) {
        for (int p : outside) {
            swapRefused(p, 0);
            swapRefused(p, 4);
            swapRefused(0, p);
            swapRefused(4, p);
        }
    }

    private static void swapBothOutside() {
        for (int p : TOO_SMALL) {
            swapRefused(p, p);
            swapRefused(p, 5);
        }
        for (int p : TOO_LARGE) {
            swapRefused(p, p);
            swapRefused(p, -1);
        }
        swapRefused(LEAST, GREATEST);
        swapRefused(GREATEST, LEAST);
    }

    private static void swapRefused(int p, int q) {
        refused("swap(" + p + ", " + q + ")", x -> x.swap(p, q));
    }

    private static void flipOfTheEnds() {
        GenomeSorter x = Due.loaded(HELD);
        Due.answer("flip(0)", x.flip(0), true);
        Due.row("flip(0)", x, -2, -3, 5, 1, -4);
        Due.answer("flip(4)", x.flip(4), true);
        Due.row("flip(4)", x, -2, -3, 5, 1, 4);
    }

    private static void flipOutside(int[] outside) {
        for (int p : outside) {
            refused("flip(" + p + ")", x -> x.flip(p));
        }
    }

    private static void refused(String call, Predicate<GenomeSorter> change) {
        GenomeSorter x = Due.loaded(HELD);
        Due.answer(call, change.test(x), false);
        Due.row("refused " + call, x, HELD);
        Due.answer("refused " + call + ", then distance()", x.distance(), HELD_DISTANCE);
    }

    // ---- Promises 8 to 11

    private static void leastDistance() {
        GenomeSorter x = Due.loaded(-1, 2, 3, 4, 5);
        Due.answer("distance() one turn away", x.distance(), 1);
        x.flip(0);
        Due.answer("distance() when sorted", x.distance(), 0);
    }

    private static void greatestDistance() {
        Due.answer("2, 1, 3, 5, 4", Due.loaded(FARTHEST).distance(), 6);
        Due.answer("5, 1, 3, 2, 4", Due.loaded(5, 1, 3, 2, 4).distance(), 6);
        Due.answer("2, 4, 3, 5, 1", Due.loaded(2, 4, 3, 5, 1).distance(), 6);
    }

    private static void distanceAfterSorting() {
        Due.answer("the first place", Due.loaded(-1, 2, 3, 4, 5).distanceAfter(0, 0), 0);
        Due.answer("the last place", Due.loaded(1, 2, 3, 4, -5).distanceAfter(4, 4), 0);
        Due.answer("the whole row", Due.loaded(-5, -4, -3, -2, -1).distanceAfter(0, 4), 0);
    }

    private static void distanceAfterGreatest() {
        Due.answer("the last place", Due.loaded(2, 1, 3, 5, -4).distanceAfter(4, 4), 6);
        Due.answer("the whole row", Due.loaded(-4, -5, -3, -1, -2).distanceAfter(0, 4), 6);
    }

    private static void distanceAfterFromTooSmall() {
        everyDistanceAfterIsNone(x -> {
            for (int i : TOO_SMALL) {
                distanceAfterIsNone(x, i, 0);
                distanceAfterIsNone(x, i, 4);
            }
        });
    }

    private static void distanceAfterToTooLarge() {
        everyDistanceAfterIsNone(x -> {
            for (int j : TOO_LARGE) {
                distanceAfterIsNone(x, 0, j);
                distanceAfterIsNone(x, 4, j);
            }
        });
    }

    private static void distanceAfterBackwards() {
        everyDistanceAfterIsNone(x -> {
            for (int i = 1; i < 5; i++) {
                for (int j = 0; j < i; j++) {
                    distanceAfterIsNone(x, i, j);
                }
            }
        });
    }

    private static void distanceAfterOutside() {
        everyDistanceAfterIsNone(x -> {
            for (int p : TOO_SMALL) {
                distanceAfterIsNone(x, p, p);
                distanceAfterIsNone(x, 4, p);
            }
            for (int p : TOO_LARGE) {
                distanceAfterIsNone(x, p, p);
                distanceAfterIsNone(x, p, 0);
            }
            distanceAfterIsNone(x, LEAST, GREATEST);
            distanceAfterIsNone(x, GREATEST, LEAST);
        });
    }

    // More rows than one: what a piece too long makes of a row may be no row, and have no distance, by chance.
    private static void everyDistanceAfterIsNone(Consumer<GenomeSorter> asks) {
        int[][] rows = {HELD, {1, 2, 3, 4, 5}, {5, -2, 3, 4, -1}, {-1, 3, 4, -2, -5}};
        for (int[] row : rows) {
            GenomeSorter x = Due.loaded(row);
            asks.accept(x);
            Due.row("distanceAfter of no piece", x, row);
        }
    }

    private static void distanceAfterIsNone(GenomeSorter x, int i, int j) {
        Due.answer("distanceAfter(" + i + ", " + j + ")", x.distanceAfter(i, j), GenomeSorter.NONE);
    }

    private static void noGoodTurns() {
        Due.answer("goodTurns() when sorted", new GenomeSorter().goodTurns(), 0);
    }

    private static void oneGoodTurn() {
        Due.answer("the first place", Due.loaded(-1, 2, 3, 4, 5).goodTurns(), 1);
        Due.answer("the last place", Due.loaded(1, 2, 3, 4, -5).goodTurns(), 1);
        Due.answer("the whole row", Due.loaded(-5, -4, -3, -2, -1).goodTurns(), 1);
    }

    private static void allGoodTurns() {
        Due.answer("goodTurns() at distance 6", Due.loaded(FARTHEST).goodTurns(), 15);
    }

    private static void firstGoodOfNone() {
        GenomeSorter x = new GenomeSorter();
        Due.answer("firstGood() when sorted", x.firstGood(), -1);
        x.flip(0);
        x.sort(9);
        Due.answer("firstGood() when sorted again", x.firstGood(), -1);
    }

    private static void firstGoodAtTheEnds() {
        Due.answer("only 0 .. 0", Due.loaded(-1, 2, 3, 4, 5).firstGood(), 0);
        Due.answer("only 0 .. 4", Due.loaded(-5, -4, -3, -2, -1).firstGood(), 4);
        Due.answer("only 4 .. 4", Due.loaded(1, 2, 3, 4, -5).firstGood(), 36);
    }

    private static void firstGoodOrder() {
        Due.answer("0 .. 2 before 1 .. 1", Due.loaded(-3, 2, -1, 4, 5).firstGood(), 2);
        Due.answer("0 .. 4 before 3 .. 3", Due.loaded(-5, -4, -3, 2, -1).firstGood(), 4);
        Due.answer("2 .. 4 before 3 .. 3", Due.loaded(1, 2, -5, 4, -3).firstGood(), 20);
        Due.answer("0 .. 0 before 0 .. 1", Due.loaded(2, 1, 3, 4, 5).firstGood(), 0);
    }

    // ---- Promise 12

    private static void sortStopsAtN() {
        for (int n = 1; n <= 6; n++) {
            GenomeSorter x = Due.loaded(FARTHEST);
            Due.answer("sort(" + n + ")", x.sort(n), n);
            Due.answer("sort(" + n + "), then distance()", x.distance(), 6 - n);
        }
    }

    private static void sortNone() {
        sortDoesNothing(0);
    }

    private static void sortBelowZero() {
        for (int n : TOO_SMALL) {
            sortDoesNothing(n);
        }
    }

    private static void sortDoesNothing(int n) {
        GenomeSorter x = Due.loaded(HELD);
        Due.answer("sort(" + n + ")", x.sort(n), 0);
        Due.row("sort(" + n + ")", x, HELD);
    }

    private static void sortNine() {
        sortDoesAll(9);
    }

    private static void sortAboveNine() {
        for (int n : new int[] {10, 11, 15, 16, 100, 128, 255, 256, 65535, 65536, 1 << 30, GREATEST}) {
            sortDoesAll(n);
        }
    }

    private static void sortDoesAll(int n) {
        GenomeSorter x = Due.loaded(FARTHEST);
        Due.answer("sort(" + n + ")", x.sort(n), 6);
        Due.row("sort(" + n + ")", x, 1, 2, 3, 4, 5);
    }

    private static void sortRunsOut() {
        for (int n = 2; n <= 9; n++) {
            GenomeSorter x = Due.loaded(1, 2, 3, 4, -5);
            Due.answer("sort(" + n + ") with one turn to do", x.sort(n), 1);
            Due.row("sort(" + n + ") with one turn to do", x, 1, 2, 3, 4, 5);
        }
        Due.answer("sort(7) with six turns to do", Due.loaded(FARTHEST).sort(7), 6);
    }

    private static void sortOfSorted() {
        GenomeSorter x = new GenomeSorter();
        for (int n : new int[] {-1, 0, 1, 9, 10}) {
            Due.answer("sort(" + n + ")", x.sort(n), 0);
        }
        Due.row("sort of a sorted row", x, 1, 2, 3, 4, 5);
    }

    private static void sortTakesTheFirst() {
        GenomeSorter x = Due.loaded(-3, 2, -1, 4, 5);
        Due.answer("sort(1) with 0 .. 2 and 1 .. 1", x.sort(1), 1);
        Due.row("sort(1) with 0 .. 2 and 1 .. 1", x, 1, -2, 3, 4, 5);
    }

    // ---- Promises 13 to 15

    private static void noBreaks() {
        Due.answer("sorted", new GenomeSorter().breaks(), 0);
    }

    private static void allBreaks() {
        Due.answer("backwards", Due.loaded(5, 4, 3, 2, 1).breaks(), 6);
        Due.answer("every second sign", Due.loaded(-1, 2, -3, 4, -5).breaks(), 6);
    }

    // The pairs inside the row go on rightly but for one, and so does the pair at the other end.
    private static void breakAtTheFront() {
        Due.answer("-4, -3, -2, -1, 5", Due.loaded(-4, -3, -2, -1, 5).breaks(), 2);
        Due.answer("-1, 2, 3, 4, 5", Due.loaded(-1, 2, 3, 4, 5).breaks(), 2);
    }

    private static void breakAtTheEnd() {
        Due.answer("1, -5, -4, -3, -2", Due.loaded(1, -5, -4, -3, -2).breaks(), 2);
        Due.answer("1, 2, 3, 4, -5", Due.loaded(1, 2, 3, 4, -5).breaks(), 2);
    }

    private static void breaksLookAtSigns() {
        Due.answer("x + 1 below 0", Due.loaded(-5, -4, -3, -2, -1).breaks(), 2);
        Due.answer("x - 1 below 0", Due.loaded(-1, -2, -3, -4, -5).breaks(), 6);
        Due.answer("x + 1 with the other sign", Due.loaded(1, -2, 3, 4, 5).breaks(), 2);
        Due.answer("-1, then 1 more than its size", Due.loaded(-2, -1, 3, 4, 5).breaks(), 2);
    }

    // In each row of the six tests below, one choice of signs alone leads to the answer.

    private static void worstByNone() {
        Due.answer("2, 1, 3, 5, 4", Due.loaded(FARTHEST).worstSigns(), 6);
        Due.answer("-1, -2, -3, -4, -5", Due.loaded(-1, -2, -3, -4, -5).worstSigns(), 5);
    }

    private static void worstBySome() {
        Due.answer("the first", Due.loaded(-2, 1, 3, 5, 4).worstSigns(), 6);
        Due.answer("the last", Due.loaded(2, 1, 3, 5, -4).worstSigns(), 6);
        Due.answer("all but the middle", Due.loaded(-2, -1, 3, -5, -4).worstSigns(), 6);
    }

    private static void worstByAll() {
        Due.answer("1, 2, 3, 4, 5", Due.loaded(1, 2, 3, 4, 5).worstSigns(), 5);
        Due.answer("-2, -1, -3, -5, -4", Due.loaded(-2, -1, -3, -5, -4).worstSigns(), 6);
    }

    private static void bestByNone() {
        Due.answer("1, 2, 3, 4, 5", Due.loaded(1, 2, 3, 4, 5).bestSigns(), 0);
        Due.answer("-2, -1, 3, 4, 5", Due.loaded(-2, -1, 3, 4, 5).bestSigns(), 1);
    }

    private static void bestBySome() {
        Due.answer("the first", Due.loaded(-1, 2, 3, 4, 5).bestSigns(), 0);
        Due.answer("the last", Due.loaded(1, 2, 3, 4, -5).bestSigns(), 0);
        Due.answer("all but the first", Due.loaded(1, -2, -3, -4, -5).bestSigns(), 0);
    }

    private static void bestByAll() {
        Due.answer("-1, -2, -3, -4, -5", Due.loaded(-1, -2, -3, -4, -5).bestSigns(), 0);
        Due.answer("-1, 4, 3, 2, -5", Due.loaded(-1, 4, 3, 2, -5).bestSigns(), 1);
    }

    // ---- Promise 16

    private static void noIdleTurns() {
        Due.answer("sorted", new GenomeSorter().idleTurns(), 0);
        Due.answer("one turn away", Due.loaded(1, 2, -3, 4, 5).idleTurns(), 0);
        Due.answer("every turn is good", Due.loaded(FARTHEST).idleTurns(), 0);
    }

    private static void mostIdleTurns() {
        Due.answer("3, 4, 2, 1, 5", Due.loaded(3, 4, 2, 1, 5).idleTurns(), 13);
        Due.answer("4, 3, 1, 2, 5", Due.loaded(4, 3, 1, 2, 5).idleTurns(), 13);
    }
}
