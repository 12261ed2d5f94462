import java.util.Arrays;

// Runs of 512 mixed calls on one object, against the model: an answer may not depend on the calls before it
// in any way but by the row that they left.
public final class GenomeSorterLongRuns {
    private static final int RUNS = 400;
    private static final int CALLS_OF_AN_OBJECT = 512;
    private static final int KINDS = 15;

    private static long state = 1;

    public static void main(String[] args) {
        int[] asked = new int[KINDS];
        Due.test("mixed calls", () -> {
            for (int run = 1; run <= RUNS; run++) {
                mixedRun(run, asked);
            }
        });
        Due.test("every kind of call came up", () ->
            Due.answer("the rarest kind, 1000 times or more", Arrays.stream(asked).min().getAsInt() >= 1000, true));
        Due.end();
    }

    private static void mixedRun(int run, int[] asked) {
        GenomeSorter x = new GenomeSorter();
        RowModel model = new RowModel();
        for (int call = 1; call <= CALLS_OF_AN_OBJECT; call++) {
            int kind = below(KINDS);
            asked[kind]++;
            compare("run " + run + ", call " + call + ": ", kind, x, model);
        }
    }

    private static void compare(String where, int kind, GenomeSorter x, RowModel model) {
        int a = below(7) - 1;
        int b = below(7) - 1;
        String two = "(" + a + ", " + b + ")";
        switch (kind) {
            case 0 -> compareLoad(where, x, model);
            case 1 -> Due.answer(where + "code", x.code(), model.code());
            case 2 -> Due.answer(where + "at " + a, x.at(a), model.at(a));
            case 3 -> Due.answer(where + "turn" + two, x.turn(a, b), model.turn(a, b));
            case 4 -> Due.answer(where + "swap" + two, x.swap(a, b), model.swap(a, b));
            case 5 -> Due.answer(where + "flip " + a, x.flip(a), model.flip(a));
            case 6 -> Due.answer(where + "distance", x.distance(), model.distance());
            case 7 -> Due.answer(where + "distanceAfter" + two, x.distanceAfter(a, b), model.distanceAfter(a, b));
            case 8 -> Due.answer(where + "goodTurns", x.goodTurns(), model.goodTurns());
            case 9 -> Due.answer(where + "firstGood", x.firstGood(), model.firstGood());
            case 10 -> Due.answer(where + "sort " + a, x.sort(a), model.sort(a));
            case 11 -> Due.answer(where + "breaks", x.breaks(), model.breaks());
            case 12 -> Due.answer(where + "worstSigns", x.worstSigns(), model.worstSigns());
            case 13 -> Due.answer(where + "bestSigns", x.bestSigns(), model.bestSigns());
            default -> Due.answer(where + "idleTurns", x.idleTurns(), model.idleTurns());
        }
    }

    // Every second code is one of a row; of the others, nearly none is.
    private static void compareLoad(String where, GenomeSorter x, RowModel model) {
        int anyRow = RowModel.codeOf(RowModel.ROWS.get(below(RowModel.ROWS.size())));
        int code = below(2) == 0 ? anyRow : below(161051);
        Due.answer(where + "load " + code, x.load(code), model.load(code));
    }

    // The same numbers on every machine and in every run, so that a failure can be run again.
    private static int below(int bound) {
        state = state * 6364136223846793005L + 1442695040888963407L;
        return (int) ((state >>> 33) % bound);
    }
}
