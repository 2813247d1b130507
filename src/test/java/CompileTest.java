/** Promises 5 and 7: compile and word, for texts that are not ill. */
public final class CompileTest {
    private static FormulaCode x;

    public static void main(String[] args) {
        numbers();
        otherConstants();
        references();
        operations();
        calls();
        sheets();
        limits();
        wordsOutside();
        Check.finish();
    }

    private static void due(String formula, String code) {
        Check.same(formula, Check.codeInParts(formula), code);
    }

    private static void numbers() {
        due("=7", "0 0 7 0");
        due("= 700 ", "0 0 7 2");
        due("=0", "0 0 0 0");
        due("=000.000E999", "0 0 0 0");
        due("=0012.3400", "0 0 1234 -2");
        due("=.5", "0 0 5 -1");
        due("=1.5e3", "0 0 15 2");
        due("=1E+3", "0 0 1 3");
        due("=1E-003", "0 0 1 -3");
        due("=123456789012345", "0 114978 101572473 0");
        due("=999999999999999000", "0 931322 616988671 3");
        due("=1073741824", "0 1 0 0");
        due("=1E999", "0 0 1 999");
        due("=0.01E-997", "0 0 1 -999");
        due("=1.00000000000001E-999", "0 93132 276447233 -1013");
        due("=" + "0".repeat(1000) + "1", "0 0 1 0");
        due("=." + "0".repeat(998) + "1", "0 0 1 -999");
        due("=." + "0".repeat(1000) + "1E500", "0 0 1 -501");
    }

    private static void otherConstants() {
        due("=\"\"", "1");
        due("=\"abcde\"", "81 1633837924 1694498816");
        due("=\"\"\"\"", "17 570425344");
        due("=\"Ab~ \"", "65 1096973856");
        due("=TRUE", "18");
        due("=false", "2");
        due("=#null!", "19");
        due("=#DIV/0!", "35");
        due("=#Value!", "51");
        due("=#REF!", "67");
        due("=#NAME?", "83");
        due("=#NUM!", "99");
        due("=#n/a", "115");
        due("={ 1 , - 2 ; \"a\" , true }", "0 0 1 0 16 0 2 0 17 1627389952 18 40 2");
        due("={-0}", "16 0 0 0 24 1");
        due("={1;2;#N/A}", "0 0 1 0 0 0 2 0 115 56 1");
    }

    private static void references() {
        due("=A1", "4 -1 1 1");
        due("=$xfd$1048576", "52 -1 1048576 16384");
        due("=$b3", "20 -1 3 2");
        due("=b$3", "36 -1 3 2");
        due("=XFE1", "6");
        due("=A1048577", "6");
        due("=A01", "6");
        due("=ABCD1", "6");
        due("=A12345678", "6");
        due("=A1.5", "6");
        due("=A1_", "6");
        due("=A1:B2", "5 -1 1 1 2 2");
        due("=$B$2:A1", (5 + 16 * 12) + " -1 1 1 2 2");
        due("=B$1:$A2", (5 + 16 * 3) + " -1 1 1 2 2");
        due("=$A1:A$1", (5 + 16 * 9) + " -1 1 1 1 1");
        due("=A$1:$A1", (5 + 16 * 6) + " -1 1 1 1 1");
        due("=c:$A", (5 + 16 * 17) + " -1 1 1 1048576 3");
        due("=$C:A", (5 + 16 * 20) + " -1 1 1 1048576 3");
        due("=$A:A", (5 + 16 * 17) + " -1 1 1 1048576 1");
        due("=1:1", (5 + 16 * 32) + " -1 1 1 1 16384");
        due("=9:$2", (5 + 16 * 34) + " -1 2 1 9 16384");
        due("=$9:2", (5 + 16 * 40) + " -1 2 1 9 16384");
        due("=SUM:sum", (5 + 16 * 16) + " -1 1 13403 1048576 13403");
        due("=A1:XFD1048576", "5 -1 1 1 1048576 16384");
        due("=A1:A1 ", "5 -1 1 1 1 1");
    }

    private static void operations() {
        due("=a+b*c", "6 22 38 153 121");
        due("=a*b+c", "6 22 153 38 121");
        due("=a-b-c", "6 22 137 38 137");
        due("=a^b^c", "6 22 185 38 185");
        due("=-a^b", "6 217 22 185");
        due("=a^-b", "6 22 217 185");
        due("=-a%", "6 217 201");
        due("=+ - a", "6 217 233");
        due("=a%%^b%", "6 201 201 22 201 185");
        due("=(a+b)*c", "6 22 121 249 38 153");
        due("=-(a)", "6 249 217");
        due("=a&b+c&d", "6 22 38 121 105 54 105");
        due("=a=b<>c", "6 22 9 38 25");
        due("=a<b<=c>d>=e", "6 22 41 38 57 54 73 70 89");
        due("=a<-b", "6 22 217 41");
        due("=a/b/c*d", "6 22 169 38 169 54 153");
        due("=a=b&c+d*e^f", "6 22 38 54 70 86 185 153 121 105 9");
        due("=a^b*c+d&e=f", "6 22 185 38 153 54 121 70 105 86 9");
        due("=A<a", "6 6 41");
    }

    private static void calls() {
        due("=PI()", String.valueOf(10 + 16 * 64 * 132));
        due("=pi( )", String.valueOf(10 + 16 * 64 * 132));
        due("=SUM(,)", "7 7 " + (10 + 16 * 2));
        due("=SUM(a,)", "6 7 " + (10 + 16 * 2));
        due("=SUM( , a )", "7 6 " + (10 + 16 * 2));
        due("=Error.Type(a)", "6 " + (10 + 16 * (1 + 64 * 131)));
        due("=IF(a,b)", "6 22 " + (10 + 16 * (2 + 64 * 49)));
        due("=foo()", "11 0");
        due("=foo(bar)", "22 27 0");
        due("=bar+foo(bar,FOO)", "6 6 22 43 1 121");
        due("=TRUE()", "11 0");
        due("=A1(2)", "0 0 2 0 27 0");
        due("=LOG10(A1)", "4 -1 1 1 27 0");
        due("=SUM", "6");
        due("=-SUM(a)%", "6 26 217 201");
        due("=f(g(),(h))", "11 1 38 249 43 0");
        due("=SUM({1,2})", "0 0 1 0 0 0 2 0 24 2 26");
    }

    private static void sheets() {
        String[] given = {"Data", "It's", "A1", "true", "x!y"};
        String[] formulas = {"=dATA!A1", "='DATA'!$A:b", "='it''s'!3:$4", "=A1!A1:b2", "=TRUE!c3", "='x!y'!A1"};
        String[] codes = {"4 0 1 1", (5 + 16 * 17) + " 0 1 1 1048576 2",
            (5 + 16 * 40) + " 1 3 1 4 16384", "5 2 1 1 2 2", "4 3 3 3", "4 4 1 1"};
        x = new FormulaCode();
        for (int k = 0; k < given.length; k++) {
            Check.same("sheet " + given[k], Check.sheet(x, given[k]), String.valueOf(k));
        }
        for (int k = 0; k < formulas.length; k++) {
            Check.same(formulas[k], Check.code(x, formulas[k]), codes[k]);
        }
    }

    private static void limits() {
        due("=" + "_".repeat(40), "6");
        due("=f(" + ",".repeat(29) + ")", "7 ".repeat(30) + (11 + 16 * 30) + " 0");
        due("=" + "(".repeat(59) + "{1}" + ")".repeat(59), "0 0 1 0 24 1" + " 249".repeat(59));
        due("=" + "f(".repeat(60) + ")".repeat(60), "11 0" + " 27 0".repeat(59));
        due("=" + "(".repeat(60) + "1" + ")".repeat(60) + "+" + "(".repeat(60) + "2" + ")".repeat(60),
            "0 0 1 0" + " 249".repeat(60) + " 0 0 2 0" + " 249".repeat(60) + " 121");
        due("={" + "1;".repeat(255) + "1}", "0 0 1 0 ".repeat(256) + (8 + 16 * 256) + " 1");
        due("={" + "1,1;".repeat(127) + "1,1}", "0 0 1 0 ".repeat(256) + (8 + 16 * 128) + " 2");
        due("=" + "-".repeat(1022) + "a", "6" + " 217".repeat(1022));
        due("=a" + "%".repeat(1022), "6" + " 201".repeat(1022));
        due("=1" + "+1".repeat(511), "0 0 1 0" + " 0 0 1 0 121".repeat(511));
        due("=\"" + "\"\"".repeat(255) + "\"", (1 + 16 * 255) + " 572662306".repeat(63) + " 572662272");
        due("=" + " ".repeat(1022) + "a", "6");
        due("=a" + " ".repeat(1022), "6");
    }

    private static void wordsOutside() {
        x = new FormulaCode();
        Check.code(x, "=A1");
        Check.same("word(4)", x.word(4), 0);
        Check.same("word(-1)", x.word(-1), 0);
        Check.same("word(least)", x.word(Integer.MIN_VALUE), 0);
        Check.same("word(greatest)", x.word(Integer.MAX_VALUE), 0);
        Check.same("a shorter code", Check.code(x, "=a"), "6");
        Check.same("nothing of the longer one", x.word(1), 0);
        Check.same("an ill text", Check.code(x, "=b+c+"), "IllegalArgumentException");
        Check.same("its code stays away", Check.code(x, 3), "6 0 0");
    }
}
