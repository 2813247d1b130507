/** Promises 5 and 11: every function with its number, its arguments and its printed word. */
public final class FunctionsTest {
    private static final String TABLE = ""
        + "SUM 1 30, PRODUCT 1 30, COUNT 1 30, COUNTA 1 30, COUNTBLANK 1 1, AVERAGE 1 30, AVERAGEA 1 30, MIN 1 "
        + "30, MAX 1 30, MINA 1 30, MAXA 1 30, SUMSQ 1 30, SUMPRODUCT 1 30, SUMIF 2 3, COUNTIF 2 2, AVERAGEIF 2 "
        + "3, SUMIFS 3 29, COUNTIFS 2 30, MEDIAN 1 30, MODE 1 30, LARGE 2 2, SMALL 2 2, RANK 2 3, VAR 1 30, "
        + "VARP 1 30, AVEDEV 1 30, DEVSQ 1 30, PERCENTILE 2 2, QUARTILE 2 2, ABS 1 1, INT 1 1, TRUNC 1 2, ROUND "
        + "2 2, ROUNDUP 2 2, ROUNDDOWN 2 2, MROUND 2 2, CEILING 2 2, FLOOR 2 2, EVEN 1 1, ODD 1 1, SIGN 1 1, "
        + "MOD 2 2, QUOTIENT 2 2, POWER 2 2, FACT 1 1, COMBIN 2 2, PERMUT 2 2, GCD 1 30, LCM 1 30, IF 2 3, AND "
        + "1 30, OR 1 30, XOR 1 30, NOT 1 1, IFERROR 2 2, IFNA 2 2, CHOOSE 2 30, PMT 3 5, FV 3 5, PV 3 5, NPV 2 "
        + "30, SLN 3 3, SYD 4 4, DDB 4 5, N 1 1, T 1 1, LEN 1 1, LEFT 1 2, RIGHT 1 2, MID 3 3, FIND 2 3, SEARCH "
        + "2 3, REPLACE 4 4, SUBSTITUTE 3 4, REPT 2 2, UPPER 1 1, LOWER 1 1, PROPER 1 1, TRIM 1 1, CONCATENATE "
        + "1 30, TEXTJOIN 3 30, EXACT 2 2, CHAR 1 1, CODE 1 1, VALUE 1 1, TEXT 2 2, FIXED 1 3, ROMAN 1 1, BASE "
        + "2 3, DECIMAL 2 2, VLOOKUP 3 4, HLOOKUP 3 4, LOOKUP 2 3, MATCH 2 3, INDEX 2 3, ROW 0 1, COLUMN 0 1, "
        + "ROWS 1 1, COLUMNS 1 1, ADDRESS 2 5, TRANSPOSE 1 1, DATE 3 3, TIME 3 3, YEAR 1 1, MONTH 1 1, DAY 1 1, "
        + "HOUR 1 1, MINUTE 1 1, SECOND 1 1, WEEKDAY 1 2, WEEKNUM 1 2, EDATE 2 2, EOMONTH 2 2, DAYS 2 2, "
        + "DATEDIF 3 3, NETWORKDAYS 2 3, WORKDAY 2 3, DATEVALUE 1 1, TIMEVALUE 1 1, ISBLANK 1 1, ISNUMBER 1 1, "
        + "ISTEXT 1 1, ISNONTEXT 1 1, ISLOGICAL 1 1, ISERROR 1 1, ISERR 1 1, ISNA 1 1, ISEVEN 1 1, ISODD 1 1, "
        + "NA 0 0, TYPE 1 1, ERROR.TYPE 1 1, PI 0 0";

    public static void main(String[] args) {
        String[] rows = TABLE.split(", ");
        Check.same("how many functions", rows.length, 133);
        for (int f = 0; f < rows.length; f++) {
            String[] row = rows[f].split(" ");
            tryFunction(f, row[0], Integer.parseInt(row[1]), Integer.parseInt(row[2]));
        }
        Check.finish();
    }

    private static String call(String word, int count) {
        return "=" + word + "(" + (count == 0 ? "" : "1" + ",1".repeat(count - 1)) + ")";
    }

    private static void tryFunction(int f, String word, int least, int greatest) {
        for (int count = 0; count <= greatest + 1; count++) {
            FormulaCode x = new FormulaCode();
            String formula = call(count % 2 == 0 ? word : word.toLowerCase(), count);
            String code = Check.code(x, formula);
            if (count >= least && count <= greatest) {
                Check.same(formula, code, "0 0 1 0 ".repeat(count) + (10 + 16 * (count + 64 * f)));
                Check.same("print of " + formula, Check.printed(x), call(word, count));
                Check.same("names of " + formula, x.names(), 0);
            } else {
                Check.same(formula, code, "IllegalArgumentException");
                int place = count <= 30 ? formula.length() - 1 : formula.length() - 3;
                Check.same("illAt of " + formula, x.illAt(), place);
            }
        }
        FormulaCode x = new FormulaCode();
        Check.same(word + " as a name", Check.code(x, "=" + word), "6");
        Check.same(word + " longer", Check.code(x, "=" + word + "_()"), "11 1");
    }
}
