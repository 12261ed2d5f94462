// What the tests share: they name each call whose answer is not the one that is due.
final class Due {
    private static final int SHOWN_OF_A_TEST = 20;

    private static String test = "";
    private static int tests = 0;
    private static int wrong = 0;
    private static int wrongBefore = 0;

    static void test(String name, Runnable body) {
        test = name;
        tests++;
        wrongBefore = wrong;
        try {
            body.run();
        } catch (RuntimeException | Error thrown) {
            report("a call threw " + thrown);
        }
    }

    static void answer(String call, boolean got, boolean want) {
        if (got != want) {
            report(call + " answered " + got + ", due is " + want);
        }
    }

    static void answer(String call, int got, int want) {
        if (got != want) {
            report(call + " answered " + got + ", due is " + want);
        }
    }

    static void row(String after, GenomeSorter x, int... markers) {
        for (int p = 0; p < 5; p++) {
            answer(after + ", then at(" + p + ")", x.at(p), markers[p]);
        }
        answer(after + ", then code()", x.code(), codeOf(markers));
    }

    static GenomeSorter loaded(int... markers) {
        GenomeSorter x = new GenomeSorter();
        int code = codeOf(markers);
        answer("load(" + code + ")", x.load(code), true);
        return x;
    }

    static int codeOf(int... markers) {
        int[] powers = {1, 11, 121, 1331, 14641};
        int sum = 0;
        for (int p = 0; p < 5; p++) {
            sum += powers[p] * (markers[p] + 5);
        }
        return sum;
    }

    static void askAll(GenomeSorter x, int a, int b) {
        x.code();
        x.at(a);
        x.distance();
        x.distanceAfter(a, b);
        x.goodTurns();
        x.firstGood();
        x.breaks();
        x.worstSigns();
        x.bestSigns();
        x.idleTurns();
    }

    static void end() {
        System.out.println(tests + " tests, " + wrong + " answers not as due");
        if (wrong != 0) {
            System.exit(1);
        }
    }

    private static void report(String text) {
        wrong++;
        if (wrong - wrongBefore <= SHOWN_OF_A_TEST) {
            System.out.println("[" + test + "] " + text);
        }
    }
}
