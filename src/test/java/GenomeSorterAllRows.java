import java.util.List;

// Every row, every piece and every code, against the model.
public final class GenomeSorterAllRows {
    private static final int CALLS_OF_AN_OBJECT = 512;

    private static int calls = 0;
    private static GenomeSorter object = new GenomeSorter();

    public static void main(String[] args) {
        Due.test("the model", GenomeSorterAllRows::theModel);
        Due.test("every code", GenomeSorterAllRows::everyCode);
        Due.test("every row: questions", () -> RowModel.ROWS.forEach(GenomeSorterAllRows::questions));
        Due.test("every row: turns", () -> RowModel.ROWS.forEach(GenomeSorterAllRows::turns));
        Due.test("every row: changes", () -> RowModel.ROWS.forEach(GenomeSorterAllRows::changes));
        Due.test("every row: sorting", () -> RowModel.ROWS.forEach(GenomeSorterAllRows::sorting));
        Due.end();
    }

    private static void theModel() {
        Due.answer("the number of rows", RowModel.ROWS.size(), 3840);
        Due.answer("the number of measured rows", RowModel.DISTANCES.size(), 3840);
    }

    private static void everyCode() {
        RowModel model = new RowModel();
        for (int code = -200; code < 161051 + 200; code++) {
            if (calls + 2 > CALLS_OF_AN_OBJECT) {
                renew();
                model = new RowModel();
            }
            calls += 2;
            Due.answer("load(" + code + ")", object.load(code), model.load(code));
            Due.answer("code after load(" + code + ")", object.code(), model.code());
        }
    }

    private static void questions(List<Integer> row) {
        GenomeSorter x = loaded(row, 20);
        RowModel model = RowModel.of(row);
        Due.answer(row + " code", x.code(), model.code());
        for (int p = -2; p < 7; p++) {
            Due.answer(row + " at " + p, x.at(p), model.at(p));
        }
        Due.answer(row + " distance", x.distance(), model.distance());
        Due.answer(row + " breaks", x.breaks(), model.breaks());
        Due.answer(row + " worstSigns", x.worstSigns(), model.worstSigns());
        Due.answer(row + " bestSigns", x.bestSigns(), model.bestSigns());
        Due.answer(row + " code after the questions", x.code(), model.code());
    }

    private static void turns(List<Integer> row) {
        GenomeSorter x = loaded(row, 54);
        RowModel model = RowModel.of(row);
        for (int i = -1; i < 6; i++) {
            for (int j = -1; j < 6; j++) {
                Due.answer(row + " distanceAfter " + i + ", " + j, x.distanceAfter(i, j), model.distanceAfter(i, j));
            }
        }
        Due.answer(row + " goodTurns", x.goodTurns(), model.goodTurns());
        Due.answer(row + " idleTurns", x.idleTurns(), model.idleTurns());
        Due.answer(row + " firstGood", x.firstGood(), model.firstGood());
        Due.answer(row + " code after asking for turns", x.code(), model.code());
    }

    private static void changes(List<Integer> row) {
        for (int p = -1; p < 6; p++) {
            for (int q = -1; q < 6; q++) {
                GenomeSorter x = loaded(row, 3);
                RowModel model = RowModel.of(row);
                Due.answer(row + " turn " + p + ", " + q, x.turn(p, q), model.turn(p, q));
                Due.answer(row + " code after turn " + p + ", " + q, x.code(), model.code());
                x = loaded(row, 3);
                model = RowModel.of(row);
                Due.answer(row + " swap " + p + ", " + q, x.swap(p, q), model.swap(p, q));
                Due.answer(row + " code after swap " + p + ", " + q, x.code(), model.code());
            }
            GenomeSorter x = loaded(row, 3);
            RowModel model = RowModel.of(row);
            Due.answer(row + " flip " + p, x.flip(p), model.flip(p));
            Due.answer(row + " code after flip " + p, x.code(), model.code());
        }
    }

    private static void sorting(List<Integer> row) {
        for (int n = -1; n < 11; n++) {
            GenomeSorter x = loaded(row, 3);
            RowModel model = RowModel.of(row);
            Due.answer(row + " sort " + n, x.sort(n), model.sort(n));
            Due.answer(row + " code after sort " + n, x.code(), model.code());
        }
    }

    // The answers are free after an object's 512th call, so none is used for more.
    private static GenomeSorter loaded(List<Integer> row, int callsToCome) {
        if (calls + callsToCome > CALLS_OF_AN_OBJECT) {
            renew();
        }
        calls += callsToCome;
        Due.answer("load of " + row, object.load(RowModel.codeOf(row)), true);
        return object;
    }

    private static void renew() {
        object = new GenomeSorter();
        calls = 0;
    }
}
