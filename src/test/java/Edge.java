/** A sentence of the document that names a boundary: formulas that are still good, and those that no longer are. */
final class Edge {
    private static final String KEPT = "=kept";

    private final String sentence;
    private final String[] sheets;

    private Edge(String sentence, String[] sheets) {
        this.sentence = sentence;
        this.sheets = sheets;
    }

    static Edge of(String sentence, String... sheets) {
        return new Edge(sentence, sheets);
    }

    /** The formula has this code. */
    Edge good(String formula, String code) {
        Check.same(sentence + ": " + formula, Check.codeInParts(formula, sheets), code);
        return this;
    }

    /** The formula is ill where a | stands that isn't part of it. */
    Edge ill(String... marked) {
        for (String formula : marked) {
            int place = formula.indexOf('|');
            illAt(formula.substring(0, place) + formula.substring(place + 1), place);
        }
        return this;
    }

    /** The formula is ill at a place, and what was there before stays. */
    Edge illAt(String formula, int place) {
        FormulaCode x = Check.fresh(sheets);
        Check.code(x, KEPT);
        String what = sentence + ": " + formula;
        Check.text(x, formula);
        Check.same(what, Check.compile(x), "IllegalArgumentException");
        Check.same("illAt of " + what, x.illAt(), place);
        Check.same("the names behind " + what, x.names(), 1);
        Check.same("the code behind " + what, Check.code(x, 2), "6 0");
        Check.same("the print behind " + what, Check.printed(x), KEPT);
        return this;
    }

    /** The formula is printed like this, and this is printed like itself. */
    Edge print(String formula, String due) {
        Check.same(sentence + ": " + formula, Check.printInParts(formula, sheets), due);
        Check.same(sentence + ": " + due, Check.printInParts(due, sheets), due);
        return this;
    }

    /** The code of a NUMBER. */
    static String number(long m, int p) {
        return "0 " + m / 1073741824 + " " + m % 1073741824 + " " + p;
    }

    /** The code of a PLACE of no sheet, without $. */
    static String place(int row, int column) {
        return "4 -1 " + row + " " + column;
    }

    /** The code of a RANGE of no sheet. */
    static String range(int x, int upper, int left, int lower, int right) {
        return (5 + 16 * x) + " -1 " + upper + " " + left + " " + lower + " " + right;
    }
}
