/** Promises 11 to 13: print, output, again. */
public final class PrintTest {
    public static void main(String[] args) {
        numbers();
        formulas();
        sheets();
        firstComers();
        longest();
        outputStays();
        textAgain();
        Check.finish();
    }

    private static void due(String formula, String print) {
        FormulaCode x = new FormulaCode();
        String code = Check.code(x, formula);
        Check.same("print of " + formula, Check.printed(x), print);
        x.again();
        int count = code.split(" ").length;
        Check.same("again of " + formula, Check.compile(x), String.valueOf(count));
        Check.same("code again of " + formula, Check.code(x, count), code);
    }

    private static void numbers() {
        String[][] pairs = {
            {"=0", "=0"}, {"=0.000E5", "=0"}, {"=1.50", "=1.5"}, {"=.5", "=0.5"}, {"=007", "=7"}, {"=120", "=120"},
            {"=1E20", "=100000000000000000000"}, {"=1E21", "=1E+21"}, {"=1.25E21", "=1.25E+21"},
            {"=123456789012345E6", "=123456789012345000000"}, {"=123456789012345E7", "=1.23456789012345E+21"},
            {"=1E-5", "=0.00001"}, {"=9.9E-5", "=0.000099"}, {"=1E-6", "=1E-06"}, {"=12E-7", "=1.2E-06"},
            {"=123456789012345E-19", "=0.0000123456789012345"}, {"=1e-100", "=1E-100"}, {"=9.5E999", "=9.5E+999"},
            {"=1.5E-999", "=1.5E-999"}, {"=12.345", "=12.345"}, {"=123456789012345", "=123456789012345"},
            {"=1.23456789012345", "=1.23456789012345"}, {"=1E0", "=1"}, {"=10.0", "=10"}, {"=1E-9", "=1E-09"},
            {"={-0,-1E30,-.5}", "={-0,-1E+30,-0.5}"},
        };
        for (String[] pair : pairs) {
            due(pair[0], pair[1]);
        }
    }

    private static void formulas() {
        String[][] pairs = {
            {"= true", "=TRUE"}, {"=False", "=FALSE"}, {"=#n/a", "=#N/A"}, {"=#Div/0!+#name?", "=#DIV/0!+#NAME?"},
            {"=#null!&#value!&#ref!&#num!", "=#NULL!&#VALUE!&#REF!&#NUM!"},
            {"=\"a \"\"B\"\" c\"", "=\"a \"\"B\"\" c\""}, {"=\"\"", "=\"\""},
            {"=a1 + $b$2 - c$3 * $d4", "=A1+$B$2-C$3*$D4"}, {"=xfd1048576", "=XFD1048576"},
            {"=z1:aa1", "=Z1:AA1"}, {"=zz1:aaa1", "=ZZ1:AAA1"}, {"=az:ba", "=AZ:BA"}, {"=xez:azz", "=AZZ:XEZ"},
            {"=b$9:$a3", "=$A3:B$9"}, {"=$c:a", "=A:$C"}, {"=9:$2", "=$2:9"}, {"=$a1:a$1", "=$A1:A$1"},
            {"=a1:xfd1048576", "=A1:XFD1048576"}, {"=a:xfd", "=A:XFD"}, {"=1:1048576", "=1:1048576"},
            {"= ( ( a ) )", "=((a))"}, {"=- + - a % %", "=-+-a%%"}, {"=a=b<>c<d<=e>f>=g", "=a=b<>c<d<=e>f>=g"},
            {"=a & b + c - d * e / f ^ g", "=a&b+c-d*e/f^g"}, {"=-(a+b)%^-2", "=-(a+b)%^-2"},
            {"=sum( a , , b )", "=SUM(a,,b)"}, {"=sum( , )", "=SUM(,)"}, {"=pi( )", "=PI()"}, {"=Foo( )", "=Foo()"},
            {"=error.type(a)+Log10(b)", "=ERROR.TYPE(a)+Log10(b)"}, {"=f(g(),h(i()),)", "=f(g(),h(i()),)"},
            {"={ 1 , 2 ; \"x\" , true ; #n/a , - 3 }", "={1,2;\"x\",TRUE;#N/A,-3}"}, {"={1;2;3}", "={1;2;3}"},
            {"=true(1)", "=true(1)"}, {"=a1(a1)", "=a1(A1)"}, {"=SUM", "=SUM"}, {"=-{1}%", "=-{1}%"},
            {"=if(a,f({1,2},(b)),-c)", "=IF(a,f({1,2},(b)),-c)"},
        };
        for (String[] pair : pairs) {
            due(pair[0], pair[1]);
        }
    }

    private static void sheets() {
        String[] given = {"Data", "It's", "a1", "True", "x y", "XFE1", "_b.2", "1st"};
        String[] print = {"Data", "'It''s'", "'a1'", "'True'", "'x y'", "XFE1", "_b.2", "'1st'"};
        FormulaCode x = new FormulaCode();
        for (int k = 0; k < given.length; k++) {
            Check.sheet(x, given[k]);
        }
        for (int k = 0; k < given.length; k++) {
            String quoted = "='" + given[k].toUpperCase().replace("'", "''") + "'!$a2:b$1";
            Check.code(x, quoted);
            Check.same("print of " + quoted, Check.printed(x), "=" + print[k] + "!$A$1:B2");
        }
        x = new FormulaCode();
        String[] more = {"FALSE", "A", "A01", "A1048577", "XFD1048576", "_", "a$1", "A1B"};
        String[] morePrint = {"'FALSE'", "A", "A01", "A1048577", "'XFD1048576'", "_", "'a$1'", "A1B"};
        for (String name : more) {
            Check.sheet(x, name);
        }
        for (int k = 0; k < more.length; k++) {
            Check.code(x, "='" + more[k] + "'!1:2+'" + more[k] + "'!c:c");
            Check.same("print of " + more[k], Check.printed(x), "=" + morePrint[k] + "!1:2+" + morePrint[k] + "!C:C");
        }
    }

    private static void firstComers() {
        FormulaCode x = new FormulaCode();
        Check.code(x, "=Rate");
        Check.code(x, "=RATE+rate(fOO)+Foo");
        Check.same("names as they came first", Check.printed(x), "=Rate+Rate(fOO)+fOO");
        Check.code(x, "=Ill+");
        Check.same("the code before", Check.printed(x), "=Rate+Rate(fOO)+fOO");
        Check.code(x, "=ILL");
        Check.same("a name of an ill text came never", Check.printed(x), "=ILL");
    }

    private static void longest() {
        String formula = "=1E20" + "+1E20".repeat(203) + "+9E9";
        String print = "=1" + "0".repeat(20) + ("+1" + "0".repeat(20)).repeat(203) + "+9000000000";
        Check.same("the longest print", Check.printInParts(formula), print);
        String signs = "=" + "-".repeat(1022) + "a";
        Check.same("many signs", Check.printInParts(signs), signs);
        String quotes = "=\"" + "\"\"".repeat(255) + "\"&\"" + "~".repeat(255) + "\"";
        Check.same("long strings", Check.printInParts(quotes), quotes);
    }

    private static void outputStays() {
        FormulaCode x = new FormulaCode();
        Check.code(x, "=abc+1");
        Check.same("no output before print", x.output(0), 0);
        Check.same("print", x.print(), 6);
        Check.code(x, "=2");
        Check.same("the output stays", x.output(5), (int) '1');
        int[] outside = {6, -1, Integer.MIN_VALUE, Integer.MAX_VALUE};
        for (int k : outside) {
            Check.same("output(" + k + ")", x.output(k), 0);
        }
        Check.same("print again", x.print(), 2);
        Check.same("a shorter output", x.output(2), 0);
    }

    private static void textAgain() {
        FormulaCode x = new FormulaCode();
        Check.code(x, "=b2:a1");
        x.again();
        Check.same("nothing is printed yet", Check.compile(x), "IllegalArgumentException");
        Check.same("an empty text", x.illAt(), 0);
        x.print();
        Check.feed(x, "=7");
        x.again();
        Check.same("what is printed", Check.sheetOfText(x), "0");
        Check.same("the tape stays", x.end(2), true);
        Check.same("the output stays", x.output(5), (int) '2');
        Check.same("=7", Check.compile(x), "4");
        Check.code(x, "='=a1:B2'!A1");
        Check.same("the sheet's name", Check.printed(x), "='=A1:B2'!A1");
    }
}
