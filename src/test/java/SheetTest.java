/** Promise 4: sheet. */
public final class SheetTest {
    public static void main(String[] args) {
        wrongNames();
        eightSheets();
        Check.finish();
    }

    private static void wrongNames() {
        String ill = "IllegalArgumentException";
        FormulaCode x = new FormulaCode();
        Check.same("no name", Check.sheet(x, ""), ill);
        Check.same("32 characters", Check.sheet(x, "x".repeat(32)), ill);
        Check.same("character 31", Check.sheet(x, "a\u001fb"), ill);
        Check.same("character 127", Check.sheet(x, "ab\u007f"), ill);
        Check.same("character 0", Check.sheet(x, "\u0000"), ill);
        Check.same("character 255", Check.sheet(x, "\u00ff"), ill);
        Check.same("31 characters", Check.sheet(x, "~".repeat(31)), "0");
        Check.same("a blank", Check.sheet(x, " "), "1");
        Check.same("the same again", Check.sheet(x, " "), "IllegalStateException");
        Check.same("two blanks", Check.sheet(x, "  "), "2");
        Check.same("letters", Check.sheet(x, "Data [1]"), "3");
        Check.same("other letters", Check.sheet(x, "dATA [1]"), "IllegalStateException");
        Check.same("{ is no great [", Check.sheet(x, "data {1]"), "4");
        Check.same("a sheet's name isn't a name", x.names(), 0);
        Check.same("illAt is compile's", x.illAt(), FormulaCode.NONE);
    }

    private static void eightSheets() {
        FormulaCode x = new FormulaCode();
        for (int k = 0; k < 8; k++) {
            Check.same("sheet " + k, Check.sheet(x, "S" + k), String.valueOf(k));
        }
        Check.same("a ninth", Check.sheet(x, "T"), "IllegalStateException");
        Check.same("an ill ninth", Check.sheet(x, ""), "IllegalArgumentException");
        Check.same("the eighth", Check.code(x, "=s7!A1"), "4 7 1 1");
        Check.same("no ninth", Check.code(x, "=T!A1"), "IllegalArgumentException");
    }
}
