// Each promise by hand: ordinary inputs, the edges that the document names, and wrong inputs.
public final class GenomeSorterPromises {
    private static final int[] NO_PLACES = {-1, 5, 6, -5, 11, 32, Integer.MIN_VALUE, Integer.MAX_VALUE};
    private static final int SORTED = 159440;

    private static int wrong = 0;

    public static void main(String[] args) {
        newObject();
        load();
        loadRefuses();
        code();
        at();
        turn();
        turnRefuses();
        swap();
        flip();
        distance();
        distanceAfter();
        goodTurns();
        firstGood();
        sort();
        sortBounds();
        breaks();
        signs();
        idleTurns();
        questionsChangeNothing();
        objectsAreApart();
        fullLife();
        System.out.println(wrong == 0 ? "all answers are as due" : wrong + " answers are not as due");
        if (wrong != 0) {
            System.exit(1);
        }
    }

    private static void newObject() {
        GenomeSorter x = new GenomeSorter();
        dueRow("1: new object", x, 1, 2, 3, 4, 5);
        due("1: code of a new object", x.code(), SORTED);
        due("1: distance of a new object", x.distance(), 0);
        due("1: NONE", GenomeSorter.NONE, -1);
    }

    private static void load() {
        GenomeSorter x = new GenomeSorter();
        // -5 is digit 0 and 5 is digit 10: 0 + 1*11 + 2*121 + 3*1331 + 4*14641
        due("2: load(62810)", x.load(62810), true);
        dueRow("2: load(62810)", x, -5, -4, -3, -2, -1);
        // the least code of all: 4 + 3*11 + 2*121 + 1*1331 + 0
        due("2: load(1610)", x.load(1610), true);
        dueRow("2: load(1610)", x, -1, -2, -3, -4, -5);
        due("2: load of the row's own code", x.load(1610), true);
        dueRow("2: load of the row's own code", x, -1, -2, -3, -4, -5);
        due("2: load(sorted)", x.load(SORTED), true);
        dueRow("2: load(sorted)", x, 1, 2, 3, 4, 5);
        due("2: load of a mixed row", x.load(codeOf(3, -1, 5, -4, 2)), true);
        dueRow("2: load of a mixed row", x, 3, -1, 5, -4, 2);
    }

    private static void loadRefuses() {
        int[] noRows = {
            0, -1, 161050, 161051, Integer.MIN_VALUE, Integer.MAX_VALUE,
            SORTED - 1, SORTED + 1, -SORTED, SORTED + 161051,
            codeOf(0, 2, 3, 4, 5), codeOf(1, 2, 3, 4, 0), codeOf(1, 2, 0, 4, 5),
            codeOf(1, 1, 3, 4, 5), codeOf(1, -1, 3, 4, 5), codeOf(5, 2, 3, 4, -5),
            codeOf(0, 0, 0, 0, 0), codeOf(-2, 2, -3, 3, 1),
        };
        GenomeSorter x = new GenomeSorter();
        int before = codeOf(2, -3, 5, 1, -4);
        x.load(before);
        for (int code : noRows) {
            due("2: load(" + code + ")", x.load(code), false);
            due("2: code after load(" + code + ")", x.code(), before);
        }
    }

    private static void code() {
        GenomeSorter x = new GenomeSorter();
        x.flip(0);
        due("3: code with -1 first", x.code(), SORTED - 2);
        x.flip(0);
        x.flip(4);
        due("3: code with -5 last", x.code(), SORTED - 10 * 14641);
        x.flip(4);
        x.swap(0, 1);
        due("3: code of 2, 1, 3, 4, 5", x.code(), SORTED + 1 - 11);
    }

    private static void at() {
        GenomeSorter x = loaded(-4, 2, -5, 1, 3);
        due("4: at(0)", x.at(0), -4);
        due("4: at(1)", x.at(1), 2);
        due("4: at(2)", x.at(2), -5);
        due("4: at(3)", x.at(3), 1);
        due("4: at(4)", x.at(4), 3);
        for (int p : NO_PLACES) {
            due("4: at(" + p + ")", x.at(p), 0);
        }
    }

    private static void turn() {
        GenomeSorter x = new GenomeSorter();
        due("5: turn(1, 3)", x.turn(1, 3), true);
        dueRow("5: turn(1, 3)", x, 1, -4, -3, -2, 5);
        due("5: turn(0, 1)", x.turn(0, 1), true);
        dueRow("5: turn(0, 1)", x, 4, -1, -3, -2, 5);
        due("5: turn(4, 4)", x.turn(4, 4), true);
        dueRow("5: turn(4, 4)", x, 4, -1, -3, -2, -5);
        due("5: turn(0, 4)", x.turn(0, 4), true);
        dueRow("5: turn(0, 4)", x, 5, 2, 3, 1, -4);
        due("5: turn(0, 0)", x.turn(0, 0), true);
        dueRow("5: turn(0, 0)", x, -5, 2, 3, 1, -4);
    }

    private static void turnRefuses() {
        GenomeSorter x = loaded(2, -3, 5, 1, -4);
        for (int p : NO_PLACES) {
            due("5: turn(" + p + ", 4)", x.turn(p, 4), false);
            due("5: turn(0, " + p + ")", x.turn(0, p), false);
            due("5: turn(" + p + ", " + p + ")", x.turn(p, p), false);
        }
        for (int i = 0; i < 5; i++) {
            for (int j = 0; j < i; j++) {
                due("5: turn(" + i + ", " + j + ")", x.turn(i, j), false);
            }
        }
        due("5: turn of everything", x.turn(Integer.MIN_VALUE, Integer.MAX_VALUE), false);
        dueRow("5: refused turns", x, 2, -3, 5, 1, -4);
    }

    private static void swap() {
        GenomeSorter x = loaded(2, -3, 5, 1, -4);
        due("6: swap(0, 4)", x.swap(0, 4), true);
        dueRow("6: swap(0, 4)", x, -4, -3, 5, 1, 2);
        due("6: swap(3, 1)", x.swap(3, 1), true);
        dueRow("6: swap(3, 1)", x, -4, 1, 5, -3, 2);
        due("6: swap(2, 3)", x.swap(2, 3), true);
        dueRow("6: swap(2, 3)", x, -4, 1, -3, 5, 2);
        for (int p = 0; p < 5; p++) {
            due("6: swap(" + p + ", " + p + ")", x.swap(p, p), false);
        }
        for (int p : NO_PLACES) {
            due("6: swap(" + p + ", 1)", x.swap(p, 1), false);
            due("6: swap(1, " + p + ")", x.swap(1, p), false);
            due("6: swap(" + p + ", " + p + ")", x.swap(p, p), false);
        }
        due("6: swap(-1, 5)", x.swap(-1, 5), false);
        dueRow("6: refused swaps", x, -4, 1, -3, 5, 2);
    }

    private static void flip() {
        GenomeSorter x = loaded(2, -3, 5, 1, -4);
        due("7: flip(0)", x.flip(0), true);
        dueRow("7: flip(0)", x, -2, -3, 5, 1, -4);
        due("7: flip(1)", x.flip(1), true);
        dueRow("7: flip(1)", x, -2, 3, 5, 1, -4);
        due("7: flip(4)", x.flip(4), true);
        dueRow("7: flip(4)", x, -2, 3, 5, 1, 4);
        due("7: flip(4) again", x.flip(4), true);
        dueRow("7: flip(4) again", x, -2, 3, 5, 1, -4);
        for (int p : NO_PLACES) {
            due("7: flip(" + p + ")", x.flip(p), false);
        }
        dueRow("7: refused flips", x, -2, 3, 5, 1, -4);
    }

    private static void distance() {
        due("8: sorted", new GenomeSorter().distance(), 0);
        due("8: one sign", loaded(1, 2, -3, 4, 5).distance(), 1);
        due("8: all turned", loaded(-5, -4, -3, -2, -1).distance(), 1);
        due("8: two apart signs", loaded(-1, 2, -3, 4, 5).distance(), 2);
        due("8: exchanged neighbours", loaded(2, 1, 3, 4, 5).distance(), 3);
        due("8: two exchanged pairs", loaded(2, 1, 3, 5, 4).distance(), 6);
        due("8: all signs", loaded(-1, -2, -3, -4, -5).distance(), 5);
        due("8: backwards", loaded(5, 4, 3, 2, 1).distance(), 5);
    }

    private static void distanceAfter() {
        GenomeSorter x = loaded(2, 1, 3, 4, 5);
        due("9: distanceAfter(0, 1)", x.distanceAfter(0, 1), 2);
        due("9: distanceAfter(0, 0)", x.distanceAfter(0, 0), 2);
        due("9: distanceAfter(4, 4)", x.distanceAfter(4, 4), 4);
        for (int p : NO_PLACES) {
            due("9: distanceAfter(" + p + ", 4)", x.distanceAfter(p, 4), -1);
            due("9: distanceAfter(0, " + p + ")", x.distanceAfter(0, p), -1);
            due("9: distanceAfter(" + p + ", " + p + ")", x.distanceAfter(p, p), -1);
        }
        for (int i = 0; i < 5; i++) {
            for (int j = 0; j < i; j++) {
                due("9: distanceAfter(" + i + ", " + j + ")", x.distanceAfter(i, j), -1);
            }
        }
        dueRow("9: distanceAfter", x, 2, 1, 3, 4, 5);
    }

    private static void goodTurns() {
        due("10: sorted", new GenomeSorter().goodTurns(), 0);
        due("10: one turn away", loaded(1, 2, -3, 4, 5).goodTurns(), 1);
        due("10: two apart signs", loaded(-1, 2, -3, 4, 5).goodTurns(), 2);
        due("10: every turn is good", loaded(2, 1, 3, 5, 4).goodTurns(), 15);
    }

    private static void firstGood() {
        due("11: sorted", new GenomeSorter().firstGood(), -1);
        due("11: the whole row", loaded(-5, -4, -3, -2, -1).firstGood(), 4);
        due("11: the last place", loaded(1, 2, 3, 4, -5).firstGood(), 36);
        due("11: the piece 1 .. 3", loaded(1, -4, -3, -2, 5).firstGood(), 11);
        due("11: the lower i of two", loaded(1, -2, 3, -4, 5).firstGood(), 9);
        due("11: the lower j of several", loaded(2, 1, 3, 5, 4).firstGood(), 0);
    }

    private static void sort() {
        GenomeSorter x = loaded(1, -2, 3, -4, 5);
        due("12: sort(1)", x.sort(1), 1);
        dueRow("12: sort(1)", x, 1, 2, 3, -4, 5);
        due("12: sort(2) with one turn to do", x.sort(2), 1);
        dueRow("12: sort(2)", x, 1, 2, 3, 4, 5);
        due("12: sort of a sorted row", x.sort(3), 0);
        dueRow("12: sort of a sorted row", x, 1, 2, 3, 4, 5);
    }

    private static void sortBounds() {
        GenomeSorter x = loaded(2, 1, 3, 5, 4);
        for (int n : new int[] {0, -1, -9, Integer.MIN_VALUE}) {
            due("12: sort(" + n + ")", x.sort(n), 0);
            dueRow("12: sort(" + n + ")", x, 2, 1, 3, 5, 4);
        }
        for (int n : new int[] {6, 7, 8, 9, 10, 1000, Integer.MAX_VALUE}) {
            x.load(codeOf(2, 1, 3, 5, 4));
            due("12: sort(" + n + ")", x.sort(n), 6);
            dueRow("12: sort(" + n + ")", x, 1, 2, 3, 4, 5);
        }
        x.load(codeOf(2, 1, 3, 5, 4));
        due("12: sort(5)", x.sort(5), 5);
        due("12: distance after sort(5)", x.distance(), 1);
    }

    private static void breaks() {
        due("13: sorted", new GenomeSorter().breaks(), 0);
        due("13: all turned, only the ends are wrong", loaded(-5, -4, -3, -2, -1).breaks(), 2);
        due("13: backwards", loaded(5, 4, 3, 2, 1).breaks(), 6);
        due("13: wrong at the front", loaded(-1, 2, 3, 4, 5).breaks(), 2);
        due("13: wrong at the end", loaded(1, 2, 3, 4, -5).breaks(), 2);
        due("13: in the middle", loaded(1, 3, 2, 4, 5).breaks(), 3);
        due("13: from -1 on to 0 is no pair", loaded(-2, -1, 3, 4, 5).breaks(), 2);
        due("13: all but the ends", loaded(1, -3, 2, -4, 5).breaks(), 4);
    }

    private static void signs() {
        GenomeSorter x = loaded(-1, 2, -3, 4, -5);
        due("15: signs alone are wrong", x.bestSigns(), 0);
        due("14: signs alone are wrong", x.worstSigns(), 5);
        dueRow("14, 15: the row stays", x, -1, 2, -3, 4, -5);
        x.load(codeOf(5, 4, 3, 2, 1));
        due("15: backwards", x.bestSigns(), 1);
        due("14: backwards", x.worstSigns(), 5);
        x.load(codeOf(2, 1, 3, 5, 4));
        due("14: none exchanged is the worst", x.worstSigns(), 6);
        x.load(codeOf(-2, -1, 3, -5, -4));
        due("15: none exchanged is the best", x.bestSigns(), 2);
        due("14: some exchanged", x.worstSigns(), 6);
        x.load(codeOf(5, -2, 3, 4, -1));
        due("15: 5, 2, 3, 4, 1", x.bestSigns(), 2);
        due("14: 5, 2, 3, 4, 1", x.worstSigns(), 5);
    }

    private static void idleTurns() {
        due("16: sorted", new GenomeSorter().idleTurns(), 0);
        due("16: one sign", loaded(1, 2, -3, 4, 5).idleTurns(), 0);
        due("16: every turn is good", loaded(2, 1, 3, 5, 4).idleTurns(), 0);
        due("16: of all turns but three", loaded(159200).idleTurns(), 12);
    }

    private static void questionsChangeNothing() {
        GenomeSorter x = loaded(2, -3, 5, 1, -4);
        x.code();
        x.at(2);
        x.distance();
        x.distanceAfter(0, 3);
        x.goodTurns();
        x.firstGood();
        x.breaks();
        x.worstSigns();
        x.bestSigns();
        x.idleTurns();
        dueRow("questions", x, 2, -3, 5, 1, -4);
    }

    private static void objectsAreApart() {
        GenomeSorter x = new GenomeSorter();
        GenomeSorter y = new GenomeSorter();
        x.turn(0, 2);
        dueRow("the other object", y, 1, 2, 3, 4, 5);
        y.flip(4);
        dueRow("the one object", x, -3, -2, -1, 4, 5);
    }

    // 512 calls on one object: three steps that come back to the sorted row, and one question.
    private static void fullLife() {
        GenomeSorter x = new GenomeSorter();
        for (int k = 0; k < 128; k++) {
            due("call " + (4 * k + 1), x.swap(0, 1), true);
            due("call " + (4 * k + 2), x.swap(3, 4), true);
            due("call " + (4 * k + 3), x.sort(9), 6);
            due("call " + (4 * k + 4), x.code(), SORTED);
        }
    }

    private static GenomeSorter loaded(int... markers) {
        GenomeSorter x = new GenomeSorter();
        int code = markers.length == 1 ? markers[0] : codeOf(markers);
        due("load(" + code + ")", x.load(code), true);
        return x;
    }

    private static int codeOf(int... markers) {
        int[] powers = {1, 11, 121, 1331, 14641};
        int sum = 0;
        for (int p = 0; p < 5; p++) {
            sum += powers[p] * (markers[p] + 5);
        }
        return sum;
    }

    private static void dueRow(String after, GenomeSorter x, int... markers) {
        for (int p = 0; p < 5; p++) {
            due(after + ", then at(" + p + ")", x.at(p), markers[p]);
        }
        due(after + ", then code()", x.code(), codeOf(markers));
    }

    private static void due(String call, boolean got, boolean want) {
        due(call, got ? 1 : 0, want ? 1 : 0);
    }

    private static void due(String call, int got, int want) {
        if (got != want) {
            wrong++;
            System.out.println(call + " answered " + got + ", due is " + want);
        }
    }
}
