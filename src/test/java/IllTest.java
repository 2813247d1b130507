/** Promises 5 and 6: texts that are ill, and where. */
public final class IllTest {
    private static final String ILL = "IllegalArgumentException";

    public static void main(String[] args) {
        marked();
        measured();
        staysUntilNextCompile();
        Check.finish();
    }

    private static FormulaCode withSheets() {
        FormulaCode x = new FormulaCode();
        Check.sheet(x, "Data");
        Check.sheet(x, "x y");
        Check.sheet(x, "A1");
        return x;
    }

    private static void ill(String formula, int place) {
        FormulaCode x = withSheets();
        Check.same("compile of " + formula, Check.code(x, formula), ILL);
        Check.same("illAt of " + formula, x.illAt(), place);
    }

    /** The place is marked by a | that isn't part of the text. */
    private static void marked() {
        String[] formulas = {
            "|", "|A1", "| =1", "=|", "=  |", "=A1+|", "=A1+  |", "=-|", "=(1|", "=SUM(1,|", "={1|", "={1,|", "={-|",
            "=|)", "=1|)", "=(|)", "=(1|,2)", "=(1|;2)", "=1|,2", "=1 |2",
            "=a |b", "=A1 |B2", "=a |(1)", "=SUM |(1)", "=1|A1", "=A1 |\"x\"", "=1 |Data!A1", "=1 |Data!zz",
            "=|%", "=1+|%", "=|*1", "=1*|*2", "=1=|=2", "=1<>|=2", "=1=|>2", "=1> |=2", "=1< |>2", "=|=1",
            "=|:", "=A1|:", "=A1|:B", "=A|:B2", "=A|:1", "=1|:A", "=A1:B2|:C3", "=A1 |:B2",
            "=A1|: B2", "=A1|:B2(", "=A1|:B2!C3", "=A|:B(1)", "=1|:2.5", "=1|:2E3", "=1|:0", "=0|:1", "=1|:1048577",
            "=A|:XFE", "=A1|:B0", "=A:B|$1", "=A1|$2", "=A1:B2|$",
            "=|$A", "=|$1", "=|$", "=A|$", "=A|$1B", "=|$A1(", "=|$A1!B1", "=A|$1!B2", "=|$XFE1", "=|$ABCD1", "=|$A:B2",
            "=|\"x", "=|\"x\"\"", "=|\"\u001f\"", "=|\"\u007f\"", "=\"a\"|'b'",
            "=|#FOO!", "=|#N", "=|#", "=#N/A|B", "=#REF!|A1", "=1|#N/A", "=|# N/A",
            "=|.", "=1|.", "=1|.A", "=1.5|.5", "=1|E", "=1|E+", "=1E123|4", "=|12E999", "=1E-999|E",
            "=|.1E-999", "=|10E999", "=|1234567890123456", "=|1.234567890123456", "=|1000000000000001",
            "=1+|0.1000000000000001",
            "=|Nope!A1", "=|'Nope'!A1", "=|'Data", "=|'Data'A1", "=|'Data' !A1", "=|''!A1", "=|'x''y'!A1",
            "=|'x\u0001'!A1",
            "=Data!|", "=Data!| A1", "=Data!|zz", "=Data!|A", "=Data!|5", "=Data!|$A", "=Data!|A1(", "=Data!|Data!A1",
            "='x y'!|XFE1", "=Data!A1|:B", "=Data!A:A|:A", "=A1!|", "=|B1!A1", "=A1 |!B2", "=Data |!A1",
            "=SUM(|)", "=IF(1|)", "=IF(1,2,3,4|)", "=PI(1|)", "=PI(,|)", "=IF(1,2|", "=SUM(1 |2)", "=SUM(1|;2)",
            "=SUM(-|)", "=SUM(1+|,2)", "=SUM((|),1)", "=SUM(1,(|,2))", "=SUM({1|)", "=SUM(1|}",
            "={|}", "={|A1}", "={|a}", "={|1:2}", "={|(1)}", "={|+1}", "={-|-1}", "={-|TRUE}", "={-|\"a\"}",
            "={|TRUE()}",
            "={|Data!A1}", "={|{1}}", "={1,|,2}", "={1,|}", "={1;|}", "={|;1}", "={1 |2}", "={1,2;3|}", "={1;2|,3}",
            "={1,2;3,4|,5}", "={1,2;3|;4,5}", "={1|%}", "={1|+2}", "={1|:}", "={1|)", "={|\"x}", "={|#N}",
            "={TRUE|:FALSE}", "={|1234567890123456}", "={1}|{2}", "=1|{2}", "=1|}", "=1|;",
            "=|\u0000", "=1|\u0000", "=1|\t", "={1|\u0000}", "=|!A1", "=|&", "=|\\", "=a|?",
        };
        for (String formula : formulas) {
            int place = formula.indexOf('|');
            ill(formula.substring(0, place) + formula.substring(place + 1), place);
        }
    }

    private static void measured() {
        ill("=" + "a".repeat(41), 1);
        ill("=1+" + "a".repeat(41) + "(1)", 3);
        ill("=" + "a".repeat(41) + "!A1", 1);
        ill("=\"" + "x".repeat(256) + "\"", 1);
        ill("=\"" + "\"\"".repeat(256) + "\"", 1);
        ill("='" + "x".repeat(300) + "'!A1", 1);
        ill("=" + "(".repeat(61) + "1" + ")".repeat(61), 61);
        ill("=" + "(".repeat(60) + "f(1)", 61);
        ill("=" + "(".repeat(60) + "{1}", 61);
        ill("=" + "f(".repeat(60) + " g()", 122);
        ill("=" + "f(".repeat(60) + "(", 121);
        ill("=" + "(".repeat(60), 61);
        ill("=f(" + ",".repeat(30) + ")", 32);
        ill("=f(" + "1,".repeat(30) + "1)", 62);
        ill("=MOD(" + "1,".repeat(30) + "1)", 64);
        ill("=SUMIFS(" + ",".repeat(29) + ")", 37);
        ill("={" + "1,".repeat(256) + "1}", 513);
        ill("={" + "1;".repeat(256) + "1}", 513);
        ill("={" + "1,1;".repeat(128) + "1,1}", 513);
        ill("={" + "1,1,1;".repeat(85) + "1,1}", 513);
        ill("=." + "0".repeat(999) + "1", 1);
        ill("=1" + "0".repeat(1000), 1);
        ill("=" + "-".repeat(1023), 1024);
        ill(" ".repeat(1024), 0);
    }

    private static void staysUntilNextCompile() {
        FormulaCode x = withSheets();
        Check.same("before any compile", x.illAt(), FormulaCode.NONE);
        Check.code(x, "=1+");
        Check.same("an ill one", x.illAt(), 3);
        Check.text(x, "=1");
        x.print();
        Check.same("no new compile", x.illAt(), 3);
        Check.compile(x);
        Check.same("a good one", x.illAt(), FormulaCode.NONE);
    }
}
