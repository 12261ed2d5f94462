// Each promise by hand, on ordinary inputs. The boundary cases stand in GenomeSorterBoundaries.
public final class GenomeSorterPromises {
    public static void main(String[] args) {
        Due.test("1: a new object", GenomeSorterPromises::newObject);
        Due.test("2: load", GenomeSorterPromises::load);
        Due.test("3: code", GenomeSorterPromises::code);
        Due.test("4: at", GenomeSorterPromises::at);
        Due.test("5: turn", GenomeSorterPromises::turn);
        Due.test("6: swap", GenomeSorterPromises::swap);
        Due.test("7: flip", GenomeSorterPromises::flip);
        Due.test("8: distance", GenomeSorterPromises::distance);
        Due.test("9: distanceAfter", GenomeSorterPromises::distanceAfter);
        Due.test("10: goodTurns", GenomeSorterPromises::goodTurns);
        Due.test("11: firstGood", GenomeSorterPromises::firstGood);
        Due.test("12: sort", GenomeSorterPromises::sort);
        Due.test("13: breaks", GenomeSorterPromises::breaks);
        Due.test("14: worstSigns", GenomeSorterPromises::worstSigns);
        Due.test("15: bestSigns", GenomeSorterPromises::bestSigns);
        Due.test("16: idleTurns", GenomeSorterPromises::idleTurns);
        Due.test("questions change nothing", GenomeSorterPromises::questionsChangeNothing);
        Due.test("objects are apart", GenomeSorterPromises::objectsAreApart);
        Due.test("the example of README.md", GenomeSorterPromises::exampleOfReadme);
        Due.end();
    }

    private static void newObject() {
        GenomeSorter x = new GenomeSorter();
        Due.row("new", x, 1, 2, 3, 4, 5);
        Due.answer("distance()", x.distance(), 0);
        Due.answer("NONE", GenomeSorter.NONE, -1);
    }

    private static void load() {
        GenomeSorter x = new GenomeSorter();
        // -5 is digit 0 and 5 is digit 10: 0 + 1*11 + 2*121 + 3*1331 + 4*14641
        Due.answer("load(62810)", x.load(62810), true);
        Due.row("load(62810)", x, -5, -4, -3, -2, -1);
        // 8 + 4*11 + 10*121 + 1*1331 + 7*14641
        Due.answer("load(105080)", x.load(105080), true);
        Due.row("load(105080)", x, 3, -1, 5, -4, 2);
    }

    private static void code() {
        GenomeSorter x = new GenomeSorter();
        x.flip(0);
        Due.answer("code with -1 first", x.code(), 159440 - 2);
        x.flip(0);
        x.flip(4);
        Due.answer("code with -5 last", x.code(), 159440 - 10 * 14641);
        x.flip(4);
        x.swap(0, 1);
        Due.answer("code of 2, 1, 3, 4, 5", x.code(), 159440 + 1 - 11);
    }

    private static void at() {
        GenomeSorter x = Due.loaded(-4, 2, -5, 1, 3);
        Due.answer("at(1)", x.at(1), 2);
        Due.answer("at(2)", x.at(2), -5);
        Due.answer("at(3)", x.at(3), 1);
    }

    private static void turn() {
        GenomeSorter x = new GenomeSorter();
        Due.answer("turn(1, 3)", x.turn(1, 3), true);
        Due.row("turn(1, 3)", x, 1, -4, -3, -2, 5);
        Due.answer("turn(0, 1)", x.turn(0, 1), true);
        Due.row("turn(0, 1)", x, 4, -1, -3, -2, 5);
        Due.answer("turn(1, 4)", x.turn(1, 4), true);
        Due.row("turn(1, 4)", x, 4, -5, 2, 3, 1);
    }

    private static void swap() {
        GenomeSorter x = Due.loaded(2, -3, 5, 1, -4);
        Due.answer("swap(3, 1)", x.swap(3, 1), true);
        Due.row("swap(3, 1)", x, 2, 1, 5, -3, -4);
        Due.answer("swap(2, 3)", x.swap(2, 3), true);
        Due.row("swap(2, 3)", x, 2, 1, -3, 5, -4);
    }

    private static void flip() {
        GenomeSorter x = Due.loaded(2, -3, 5, 1, -4);
        Due.answer("flip(1)", x.flip(1), true);
        Due.row("flip(1)", x, 2, 3, 5, 1, -4);
        Due.answer("flip(3)", x.flip(3), true);
        Due.row("flip(3)", x, 2, 3, 5, -1, -4);
        Due.answer("flip(3) again", x.flip(3), true);
        Due.row("flip(3) again", x, 2, 3, 5, 1, -4);
    }

    private static void distance() {
        Due.answer("two apart signs", Due.loaded(-1, 2, -3, 4, 5).distance(), 2);
        Due.answer("exchanged neighbours", Due.loaded(2, 1, 3, 4, 5).distance(), 3);
        Due.answer("one sign more", Due.loaded(2, 1, 3, -4, 5).distance(), 4);
        Due.answer("backwards", Due.loaded(5, 4, 3, 2, 1).distance(), 5);
    }

    private static void distanceAfter() {
        GenomeSorter x = Due.loaded(2, 1, 3, 4, 5);
        Due.answer("distanceAfter(0, 1)", x.distanceAfter(0, 1), 2);
        Due.answer("distanceAfter(2, 3)", x.distanceAfter(2, 3), 3);
        Due.answer("distanceAfter(3, 3)", x.distanceAfter(3, 3), 4);
    }

    private static void goodTurns() {
        Due.answer("two apart signs", Due.loaded(-1, 2, -3, 4, 5).goodTurns(), 2);
        Due.answer("exchanged neighbours", Due.loaded(2, 1, 3, 4, 5).goodTurns(), 3);
        Due.answer("2, 4, 1, 3, 5", Due.loaded(2, 4, 1, 3, 5).goodTurns(), 10);
    }

    private static void firstGood() {
        Due.answer("the piece 1 .. 3", Due.loaded(1, -4, -3, -2, 5).firstGood(), 11);
        Due.answer("two signs", Due.loaded(1, -2, 3, -4, 5).firstGood(), 9);
    }

    private static void sort() {
        GenomeSorter x = Due.loaded(1, -2, 3, -4, 5);
        Due.answer("sort(1)", x.sort(1), 1);
        Due.row("sort(1)", x, 1, 2, 3, -4, 5);
        Due.answer("sort(1) again", x.sort(1), 1);
        Due.row("sort(1) again", x, 1, 2, 3, 4, 5);
    }

    private static void breaks() {
        Due.answer("exchanged neighbours", Due.loaded(1, 3, 2, 4, 5).breaks(), 3);
        Due.answer("all but the ends", Due.loaded(1, -3, 2, -4, 5).breaks(), 4);
        Due.answer("one sign", Due.loaded(1, 2, -3, 4, 5).breaks(), 2);
    }

    private static void worstSigns() {
        Due.answer("signs alone are wrong", Due.loaded(-1, 2, -3, 4, -5).worstSigns(), 5);
        Due.answer("5, -2, 3, 4, -1", Due.loaded(5, -2, 3, 4, -1).worstSigns(), 5);
    }

    private static void bestSigns() {
        Due.answer("signs alone are wrong", Due.loaded(-1, 2, -3, 4, -5).bestSigns(), 0);
        Due.answer("backwards", Due.loaded(5, 4, 3, 2, 1).bestSigns(), 1);
        Due.answer("5, -2, 3, 4, -1", Due.loaded(5, -2, 3, 4, -1).bestSigns(), 2);
    }

    private static void idleTurns() {
        Due.answer("exchanged neighbours", Due.loaded(2, 1, 3, 4, 5).idleTurns(), 9);
        Due.answer("-3, -1, 2, 4, 5", Due.loaded(-3, -1, 2, 4, 5).idleTurns(), 3);
    }

    private static void questionsChangeNothing() {
        GenomeSorter x = Due.loaded(2, -3, 5, 1, -4);
        Due.askAll(x, 1, 3);
        Due.row("questions", x, 2, -3, 5, 1, -4);
    }

    private static void objectsAreApart() {
        GenomeSorter x = new GenomeSorter();
        GenomeSorter y = new GenomeSorter();
        x.turn(0, 2);
        Due.row("turn of the other object", y, 1, 2, 3, 4, 5);
        y.flip(4);
        Due.row("flip of the other object", x, -3, -2, -1, 4, 5);
        Due.row("new beside them", new GenomeSorter(), 1, 2, 3, 4, 5);
    }

    private static void exampleOfReadme() {
        GenomeSorter sorter = new GenomeSorter();
        Due.answer("swap(0, 1)", sorter.swap(0, 1), true);
        Due.answer("code() after swap(0, 1)", sorter.code(), Due.codeOf(2, 1, 3, 4, 5));
        Due.answer("distance()", sorter.distance(), 3);
        Due.answer("firstGood()", sorter.firstGood(), 0);
        Due.answer("turn(0, 0)", sorter.turn(0, 0), true);
        Due.answer("at(0)", sorter.at(0), -2);
        Due.answer("firstGood() after turn(0, 0)", sorter.firstGood(), 1);
        Due.answer("sort(9)", sorter.sort(9), 2);
        Due.answer("code()", sorter.code(), 159440);
        Due.answer("turn(3, 2)", sorter.turn(3, 2), false);
        Due.answer("distanceAfter(3, 2)", sorter.distanceAfter(3, 2), GenomeSorter.NONE);
    }
}
