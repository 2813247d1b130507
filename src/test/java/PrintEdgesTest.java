/** Promises 11 to 13 and "PRINTED": the edges of numbers, columns, sheets, words, the output and the text again. */
public final class PrintEdgesTest {
    public static void main(String[] args) {
        withPointOrExponent();
        whereThePointStands();
        digitsOfExponent();
        numbersOfArrays();
        references();
        sheetsWithoutQuotes();
        sheetsWithQuotes();
        words();
        strings();
        noBlanks();
        nothingToPrint();
        charactersOfOutput();
        outputStays();
        longestOutput();
        firstThousandTwentyFour();
        againChangesOnlyTheText();
        Check.finish();
    }

    private static void withPointOrExponent() {
        Edge.of("written with a point for p from -5")
            .print("=1E-5", "=0.00001").print("=1E-6", "=1E-06").print("=.00001", "=0.00001")
            .print("=.000001", "=1E-06")
            .print("=9.99999999999999E-5", "=0.0000999999999999999")
            .print("=9.99999999999999E-6", "=9.99999999999999E-06")
            .print("=1.23456789012345E-5", "=0.0000123456789012345")
            .print("=1.23456789012345E-6", "=1.23456789012345E-06").print("=12E-6", "=0.000012")
            .print("=12E-7", "=1.2E-06");
        Edge.of("to 20")
            .print("=1E20", "=100000000000000000000").print("=1E21", "=1E+21")
            .print("=9.99999999999999E20", "=999999999999999000000")
            .print("=9.99999999999999E21", "=9.99999999999999E+21")
            .print("=123456789012345E6", "=123456789012345000000")
            .print("=123456789012345E7", "=1.23456789012345E+21")
            .print("=100000000000000000000", "=100000000000000000000").print("=1000000000000000000000", "=1E+21")
            .print("=12E19", "=120000000000000000000").print("=12E20", "=1.2E+21");
    }

    private static void whereThePointStands() {
        Edge.of("with a point where needed (0 before it, zeros as needed)")
            .print("=0", "=0").print("=0.0", "=0").print("=0E9", "=0").print("=1", "=1").print("=10", "=10")
            .print("=1.0", "=1")
            .print("=.1", "=0.1").print("=.01", "=0.01").print("=1.1", "=1.1").print("=10.01", "=10.01")
            .print("=007", "=7")
            .print("=123456789012345", "=123456789012345").print("=12345678901234.5", "=12345678901234.5")
            .print("=1.23456789012345", "=1.23456789012345").print("=.123456789012345", "=0.123456789012345")
            .print("=1234567890123450", "=1234567890123450").print("=12.5E1", "=125").print("=12.5E2", "=1250")
            .print("=1E14", "=100000000000000").print("=1E15", "=1000000000000000").print("=1E-1", "=0.1");
    }

    private static void digitsOfExponent() {
        Edge.of("D1, a point and the others if k is above 1, E, + or -, and p in at least two digits")
            .print("=1E-9", "=1E-09").print("=1E-10", "=1E-10").print("=1E-99", "=1E-99").print("=1E-100", "=1E-100")
            .print("=1E-999", "=1E-999").print("=1E99", "=1E+99").print("=1E100", "=1E+100")
            .print("=1E999", "=1E+999")
            .print("=12E98", "=1.2E+99").print("=12E99", "=1.2E+100").print("=12E-10", "=1.2E-09")
            .print("=12E-11", "=1.2E-10")
            .print("=9.99999999999999E999", "=9.99999999999999E+999")
            .print("=1.00000000000001E-999", "=1.00000000000001E-999")
            .print("=10E-7", "=1E-06").print("=20E20", "=2E+21");
    }

    private static void numbersOfArrays() {
        Edge.of("X 1: with - , in an ARRAY")
            .print("={-0,0}", "={-0,0}").print("={ - 1E21 , - 1E20 }", "={-1E+21,-100000000000000000000}")
            .print("={-1E-5;-1E-6}", "={-0.00001;-1E-06}").print("=-1E21", "=-1E+21");
        Edge.of("an ARRAY's rows and columns")
            .print("={1,2,3;4,5,6}", "={1,2,3;4,5,6}").print("={1;2}", "={1;2}").print("={1,2}", "={1,2}")
            .print("={1" + ",1".repeat(255) + "}", "={1" + ",1".repeat(255) + "}")
            .print("={1" + ";1".repeat(255) + "}", "={1" + ";1".repeat(255) + "}")
            .print("={\"\",TRUE;#n/a,false}", "={\"\",TRUE;#N/A,FALSE}");
    }

    private static void references() {
        Edge.of("columns are great letters")
            .print("=a1", "=A1").print("=z1", "=Z1").print("=aa1", "=AA1").print("=az1", "=AZ1").print("=ba1", "=BA1")
            .print("=zz1", "=ZZ1").print("=aaa1", "=AAA1").print("=aaz1", "=AAZ1").print("=aba1", "=ABA1")
            .print("=azz1", "=AZZ1").print("=baa1", "=BAA1").print("=xfd1048576", "=XFD1048576")
            .print("=xfc9", "=XFC9")
            .print("=a1000000", "=A1000000").print("=a999999", "=A999999").print("=xez10", "=XEZ10")
            .print("=xfa1", "=XFA1");
        Edge edge = Edge.of("every column and its letters");
        for (int column = 1; column <= 16384; column += column < 800 ? 25 : 677) {
            String letters = "";
            for (int rest = column; rest > 0; rest = (rest - 1) / 26) {
                letters = (char) ('A' + (rest - 1) % 26) + letters;
            }
            edge.good("=" + letters.toLowerCase() + "7", Edge.place(7, column))
                .print("=" + letters + "7", "=" + letters + "7");
        }
        Edge.of("$ where it was, the upper and left side first")
            .print("=$b$2:a1", "=A1:$B$2").print("=b$1:$a2", "=$A$1:B2").print("=$a1:a$1", "=$A1:A$1")
            .print("=a$1:$a1", "=A$1:$A1")
            .print("=$b:a", "=A:$B").print("=$a:a", "=$A:A").print("=a:$a", "=A:$A").print("=$2:1", "=1:$2")
            .print("=1:$1", "=1:$1")
            .print("=a:xfd", "=A:XFD").print("=1048576:1", "=1:1048576").print("=a1:xfd1048576", "=A1:XFD1048576")
            .print("=$a1", "=$A1").print("=a$1", "=A$1").print("=$a$1", "=$A$1");
    }

    private static void sheetsWithoutQuotes() {
        String[][] groups = {
            {"XFE1", "A1048577", "A0", "A01", "AAAA1", "A", "XFD", "_"},
            {"A1_", "A1.5", "A1B", "TRUE1", "TRU", "FALSE.", "_TRUE", "Data"},
            {"ZZZ1", "A10485760", "R1C1", "E5.", "SUM", "a..b", "Z_9", "s".repeat(31)},
        };
        for (String[] names : groups) {
            Edge edge = Edge.of("SHEETS as they are if they are a WORD that isn't a PLACE, TRUE or FALSE", names);
            for (String name : names) {
                edge.print("='" + name.toUpperCase() + "'!a1", "=" + name + "!A1")
                    .print("=" + name.toLowerCase() + "!b:a", "=" + name + "!A:B");
            }
        }
    }

    private static void sheetsWithQuotes() {
        String[][] groups = {
            {"A1", "xfd1048576", "True", "fALSE", "It's", "'", "''", " "},
            {"1", "1a", ".a", "a b", "a!", "a$1", "$A$1", "A:B"},
            {"a-b", "~", "9.9", "(a)", "#N/A", "\"x\"", "Z9", "~".repeat(31)},
        };
        for (String[] names : groups) {
            Edge edge = Edge.of("SHEETS between ' unless they are a WORD that isn't a PLACE, TRUE or FALSE", names);
            for (String name : names) {
                String quoted = "'" + name.replace("'", "''") + "'!";
                edge.print("=" + quoted.toUpperCase() + "a1", "=" + quoted + "A1")
                    .print("=" + quoted + "2:1", "=" + quoted + "1:2");
            }
        }
        Edge.of("a WORD that needs quotes may be read without", "A1", "True")
            .print("=a1!a1", "='A1'!A1").print("=TRUE!a:a", "='True'!A:A");
    }

    private static void words() {
        Edge.of("words of functions, TRUE, FALSE, errors are great letters; NAMES as they came first")
            .print("=sum(a.b,A.B)+Sum+SUM+sUm(1)", "=SUM(a.b,a.b)+Sum+Sum+SUM(1)").print("=true&False", "=TRUE&FALSE")
            .print("=true()&TRUE()", "=true()&true()").print("=Foo(FOO,foo())", "=Foo(Foo,Foo())")
            .print("=a1(A1)", "=a1(A1)")
            .print("=error.type(#null!)", "=ERROR.TYPE(#NULL!)")
            .print("=#div/0!&#value!&#ref!", "=#DIV/0!&#VALUE!&#REF!")
            .print("=#name?&#num!&#n/a", "=#NAME?&#NUM!&#N/A").print("=" + "q".repeat(40), "=" + "q".repeat(40));
        FormulaCode x = new FormulaCode();
        Check.code(x, "=rAte");
        Check.code(x, "=RATE+Rate()");
        Check.same("a name of an earlier text", Check.printed(x), "=rAte+rAte()");
    }

    private static void strings() {
        String full = "=\"" + "\"\"".repeat(255) + "\"";
        Edge.of("strings").print("=\"\"", "=\"\"").print("=\"\"\"\"", "=\"\"\"\"").print("=\"aBc\"", "=\"aBc\"")
            .print(full, full)
            .print("=\" ~ \"", "=\" ~ \"").print("=\"it's\"", "=\"it's\"")
            .print("=\"a\"\"b\" & \"\"", "=\"a\"\"b\"&\"\"")
            .print("=\"" + "x".repeat(255) + "\"", "=\"" + "x".repeat(255) + "\"");
    }

    private static void noBlanks() {
        Edge.of("no blanks but in strings and sheets", "a b")
            .print("=  -  sum(  1  ,  ,  \" x \"  )  %  ^  (  2  )  <=  'A B'!a1  ", "=-SUM(1,,\" x \")%^(2)<='a b'!A1")
            .print("= { 1 , - 2 ; 3 , 4 } ", "={1,-2;3,4}").print("=f(  )", "=f()").print("=f( , )", "=f(,)")
            .print("=a < - b", "=a<-b").print("=- - + a % %", "=--+a%%").print("=a <> b", "=a<>b");
        Edge.of("sixty in one another")
            .print("=" + "( ".repeat(60) + "1" + ")".repeat(60), "=" + "(".repeat(60) + "1" + ")".repeat(60))
            .print("=" + "f( ".repeat(60) + ")".repeat(60), "=" + "f(".repeat(60) + ")".repeat(60));
        Edge.of("thirty arguments")
            .print("=f(" + ", ".repeat(29) + ")", "=f(" + ",".repeat(29) + ")")
            .print("=max(1" + ", 1".repeat(29) + ")", "=MAX(1" + ",1".repeat(29) + ")");
    }

    private static void nothingToPrint() {
        FormulaCode x = new FormulaCode();
        Check.same("no code", x.print(), 0);
        Check.same("no output", x.output(0), 0);
        Check.text(x, "=1+");
        Check.compile(x);
        Check.same("an ill text is no code", x.print(), 0);
        Check.text(x, "=1");
        Check.same("a text that isn't compiled is no code", x.print(), 0);
        Check.compile(x);
        Check.same("the shortest code", x.print(), 2);
        Check.same("its last character", x.output(1), (int) '1');
        Check.same("none behind it", x.output(2), 0);
    }

    private static void charactersOfOutput() {
        FormulaCode x = new FormulaCode();
        Check.code(x, "=ab + 7");
        Check.same("no output before print", x.output(0), 0);
        Check.same("print()", x.print(), 5);
        Check.same("the first", x.output(0), (int) '=');
        Check.same("the last", x.output(4), (int) '7');
        int[] outside = {5, 6, -1, Integer.MAX_VALUE, Integer.MIN_VALUE, Integer.MAX_VALUE - 5, 1 << 30};
        for (int k : outside) {
            Check.same("output(" + k + ")", x.output(k), 0);
        }
        Check.same("print once more", x.print(), 5);
    }

    private static void outputStays() {
        FormulaCode x = new FormulaCode();
        Check.code(x, "=abc+1");
        x.print();
        Check.code(x, "=2");
        Check.same("compile leaves the output", x.output(5), (int) '1');
        Check.code(x, "=2+");
        Check.same("a refused compile, too", x.output(5), (int) '1');
        x.again();
        Check.same("again, too", x.output(5), (int) '1');
        Check.same("print makes it new", x.print(), 2);
        Check.same("without the old", x.output(2), 0);
    }

    private static void longestOutput() {
        String formula = "=1E20" + "+1E20".repeat(203) + "+9E9";
        String due = "=1" + "0".repeat(20) + ("+1" + "0".repeat(20)).repeat(203) + "+9000000000";
        Check.same("1024 characters grow to 4499", Check.printInParts(formula), due);
        FormulaCode x = Check.fresh("A1");
        Check.text(x, "=A1!A1" + "+A1!A1".repeat(169));
        Check.compile(x);
        Check.same("sheets with new quotes", x.print(), 1 + 7 + 169 * 8);
    }

    private static void firstThousandTwentyFour() {
        int[] signs = {1001, 1002, 1003, 1018};
        int[] powers = {20, 20, 19, 4};
        for (int k = 0; k < signs.length; k++) {
            FormulaCode x = new FormulaCode();
            Check.text(x, "=" + "-".repeat(signs[k]) + "1E20");
            Check.compile(x);
            Check.same("characters", x.print(), signs[k] + 22);
            x.again();
            Check.same("its first 1024", Check.compile(x), String.valueOf(4 + signs[k]));
            Check.same("what is left of 1E20", Check.code(x, 5), "0 0 1 " + powers[k] + " 217");
            Check.same("as printed", x.print(), Math.min(1024, signs[k] + 22));
        }
        FormulaCode x = new FormulaCode();
        Check.text(x, "=" + "1+".repeat(500) + "f({1E20})");
        Check.compile(x);
        Check.same("1027 characters", x.print(), 1001 + 4 + 21 + 1);
        x.again();
        Check.same("without its end", Check.compile(x), "IllegalArgumentException");
        Check.same("a text of 1024", x.illAt(), 1024);
    }

    private static void againChangesOnlyTheText() {
        FormulaCode x = new FormulaCode();
        Check.text(x, "=b2:a1");
        x.again();
        Check.same("nothing is printed: an empty text", Check.sheetOfText(x), "IllegalArgumentException");
        Check.same("and nothing to read", Check.compile(x), "IllegalArgumentException");
        Check.same("from 0 on", x.illAt(), 0);
        Check.code(x, "=b2:a1");
        x.print();
        Check.feed(x, "=7");
        x.again();
        Check.same("the code stays", x.word(0), 5);
        Check.same("the output stays", x.print(), 6);
        Check.same("what is printed is the text", Check.sheetOfText(x), "0");
        Check.same("and stays the text", Check.compile(x), "6");
        Check.same("the tape stays", x.end(2), true);
        Check.same("with its bytes", Check.compile(x), "4");
        Check.same("the sheet's name", Check.code(x, "='=a1:B2'!A1"), "4 0 1 1");
        Check.same("is what was printed", Check.printed(x), "='=A1:B2'!A1");
    }
}
