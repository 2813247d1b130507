/** "Terms": the edges of EXPRESSIONS, ARRAYS and CALLS, what is in one another, and where a text is ILL. */
public final class GrammarEdgesTest {
    private static final String ONE = "0 0 1 0";

    public static void main(String[] args) {
        levels();
        partsAndSigns();
        elementsOfArrays();
        rowsOfArrays();
        sizesOfArrays();
        argumentsOfOtherWords();
        argumentsOfFunctions();
        leftOut();
        sixty();
        sixtyOfAllKinds();
        endsTooEarly();
        closes();
        longestTexts();
        Check.finish();
    }

    private static void levels() {
        String[][] signs = {{"=", "<>", "<", "<=", ">", ">="}, {"&"}, {"+", "-"}, {"*", "/"}, {"^"}};
        int[] first = {0, 6, 7, 9, 11};
        Edge edge = Edge.of("each of these levels likewise, joined from the left: & ; + - ; * / ; ^");
        for (int one = 0; one < signs.length; one++) {
            for (int other = 0; other < signs.length; other++) {
                for (int i = 0; i < signs[one].length; i++) {
                    for (int j = 0; j < signs[other].length; j++) {
                        int a = 9 + 16 * (first[one] + i);
                        int b = 9 + 16 * (first[other] + j);
                        edge.good("=a" + signs[one][i] + "b" + signs[other][j] + "c",
                            other <= one ? "6 22 " + a + " 38 " + b : "6 22 38 " + b + " " + a);
                    }
                }
            }
        }
    }

    private static void partsAndSigns() {
        Edge.of("a PART is any number of signs + - and an ATOM, behind which any number of % may stand")
            .good("=-2^2", "0 0 2 0 217 0 0 2 0 185").good("=2^-2", "0 0 2 0 0 0 2 0 217 185").good("=a%", "6 201")
            .good("=-a%", "6 217 201").good("=--a%%", "6 217 217 201 201").good("=-+a", "6 233 217")
            .good("=a^b%", "6 22 201 185").good("=a%^b", "6 201 22 185").good("=a--b", "6 22 217 137")
            .good("=a+-+b", "6 22 233 217 121").good("=-a*-b", "6 217 22 217 153").good("=-(a)%", "6 249 217 201")
            .good("=-{1}%", ONE + " 24 1 217 201").good("=-f()%", "11 0 217 201").good("=-A1%", "4 -1 1 1 217 201")
            .good("=-TRUE%", "18 217 201").good("=-#N/A%", "115 217 201").good("=-\"\"%", "1 217 201")
            .ill("=|%", "=-|%", "=a+|%", "=(|%)", "=a%|b", "=a%|1", "=a|~", "=-|*a", "=a%|(1)", "=a%|:b");
    }

    private static void elementsOfArrays() {
        Edge.of("ELEMENTS: NUMBER, perhaps with - , STRING, TRUE, FALSE, ERROR", "S")
            .good("={1}", ONE + " 24 1").good("={-1}", "16 0 1 0 24 1").good("={ - 1 }", "16 0 1 0 24 1")
            .good("={\"\"}", "1 24 1").good("={true}", "18 24 1").good("={FALSE}", "2 24 1")
            .good("={#N/A}", "115 24 1")
            .good("={.5E1}", "0 0 5 0 24 1")
            .ill("={|}", "={|+1}", "={-|-1}", "={-|+1}", "={-|\"a\"}", "={-|TRUE}", "={-|#N/A}", "={-|}", "={-|,1}")
            .ill("={|a}", "={|A1}", "={|$A$1}", "={|A:B}", "={|1:2}", "={|S!A1}", "={|'S'!A1}", "={|(1)}", "={|{1}}")
            .ill("={|f(1)}", "={|PI()}", "={|TRUE()}", "={|TRUE!A1}", "={1|%}", "={1|+1}", "={1|=1}", "={1 |1}")
            .ill("={1|a}")
            .ill("={\"a\" |\"b\"}", "={TRUE |TRUE}", "={#N/A|#N/A}", "={1|(}", "={1|{}")
            .ill("={1|:}", "={1|!}", "={1|)}", "={|)}", "={|%}", "={|&}", "={|\u0000}", "={1|\u0000}", "={|.}")
            .ill("={1|.}");
    }

    private static void rowsOfArrays() {
        Edge.of("all rows of as many: at the , ; or } where a row is longer or shorter than its first one")
            .good("={1,1;1,1}", (ONE + " ").repeat(4) + "40 2").good("={1;1}", (ONE + " ").repeat(2) + "40 1")
            .good("={1,1,1;1,1,1}", (ONE + " ").repeat(6) + "40 3").good("={1,1}", (ONE + " ").repeat(2) + "24 2")
            .ill("={1;1|,1}", "={1;1|,1;1}", "={1;1|,}", "={1;1;1|,1}", "={1,1;1,1|,1}", "={1,1;1,1;1,1|,1}")
            .ill("={1;1 |, 1}")
            .ill("={1,1;1|}", "={1,1;1|;1,1}", "={1,1;1 |; 1}", "={1,1,1;1,1|}", "={1,1,1;1,1|;", "={1,1;1,1;1|}")
            .ill("={1,1;1 |}")
            .ill("={1,|}", "={1;|}", "={|,1}", "={|;1}", "={1,|,1}", "={1,|;1}", "={1;|;1}", "={1;|,1}");
    }

    private static void sizesOfArrays() {
        Edge edge = Edge.of("at most 256; at the , or ; where there would be a 257th element");
        int[] columns = {1, 2, 4, 8, 16, 32, 64, 128, 256};
        for (int n : columns) {
            String row = "1" + ",1".repeat(n - 1);
            String full = "={" + row + (";" + row).repeat(256 / n - 1);
            edge.good(full + "}", (ONE + " ").repeat(256) + (8 + 16 * (256 / n)) + " " + n);
            edge.illAt(full + ";1}", full.length()).illAt(full + ";", full.length())
                .illAt(full + ";1,1}", full.length())
                .illAt(full + ",1}", full.length()).illAt(full + ",", full.length()).illAt(full, full.length());
        }
        String three = "={1,1,1" + ";1,1,1".repeat(84);
        edge.good(three + "}", (ONE + " ").repeat(255) + (8 + 16 * 85) + " 3");
        edge.illAt(three + ";1,1,1}", three.length() + 2).illAt(three + ";1}", three.length() + 2)
            .illAt(three + ";1;1}", three.length() + 2);
        String manyOfFive = "={1,1,1,1,1" + ";1,1,1,1,1".repeat(50);
        edge.good(manyOfFive + "}", (ONE + " ").repeat(255) + (8 + 16 * 51) + " 5")
            .illAt(manyOfFive + ";1,1,1,1,1}", manyOfFive.length() + 2);
        String both = "{1" + ",1".repeat(199) + "}";
        edge.good("=" + both + "+" + both, ((ONE + " ").repeat(200) + "24 200 ").repeat(2) + "121");
    }

    private static void argumentsOfOtherWords() {
        Edge.of("ARGUMENTS, with , between them, at most 30; at the , of a 31st argument")
            .good("=f(" + "1,".repeat(29) + "1)", (ONE + " ").repeat(30) + (11 + 16 * 30) + " 0")
            .illAt("=f(" + "1,".repeat(30) + "1)", 62).illAt("=f(" + "1,".repeat(30), 62)
            .illAt("=f(" + "1,".repeat(30) + ")", 62)
            .good("=f(" + ",".repeat(29) + ")", "7 ".repeat(30) + (11 + 16 * 30) + " 0")
            .illAt("=f(" + ",".repeat(30) + ")", 32).illAt("=f(" + ",".repeat(31) + ")", 32)
            .good("=f(" + "1,".repeat(29) + ")", (ONE + " ").repeat(29) + "7 " + (11 + 16 * 30) + " 0")
            .good("=f(g(" + ",".repeat(29) + ")" + ",".repeat(29) + ")",
                "7 ".repeat(30) + (11 + 16 * 30) + " 1 " + "7 ".repeat(29) + (11 + 16 * 30) + " 0")
            .illAt("=f(g(" + ",".repeat(29) + ")" + ",".repeat(30) + ")", 64)
            .illAt("=f(" + ",".repeat(29) + "g(" + ",".repeat(30) + "))", 63)
            .good("=f(" + ",".repeat(29) + "{1,1})",
                "7 ".repeat(29) + ONE + " " + ONE + " 24 2 " + (11 + 16 * 30) + " 0");
        Edge.of("other WORDS may be called, too, with any number")
            .good("=f()", "11 0").good("=f(1)", ONE + " 27 0").good("=f(1,1)", ONE + " " + ONE + " 43 0");
    }

    private static void argumentsOfFunctions() {
        Edge.of("at the ) of a CALL of a function with too few or too many")
            .good("=PI()", "135178").ill("=PI(1|)", "=PI(,|)", "=PI(1,1|)", "=PI( 1 |)")
            .good("=ROW()", "97290").good("=ROW(1)", ONE + " 97306").ill("=ROW(1,1|)", "=ROW(,|)")
            .good("=IF(1,1)", ONE + " " + ONE + " 50218").good("=IF(,,)", "7 7 7 50234").good("=IF(,)", "7 7 50218")
            .ill("=IF(|)", "=IF(1|)", "=IF(1,1,1,1|)", "=IF(,,,|)", "=IF( |)", "=1+IF(1|)", "=f(IF(1|))")
            .ill("=IF(IF(1|),1)")
            .good("=SUM(" + "1,".repeat(29) + "1)", (ONE + " ").repeat(30) + (10 + 16 * 30))
            .illAt("=SUM(" + "1,".repeat(30) + "1)", 64).ill("=SUM(|)")
            .good("=SUMIFS(" + ",".repeat(28) + ")", "7 ".repeat(29) + (10 + 16 * (29 + 64 * 16)))
            .illAt("=SUMIFS(" + ",".repeat(29) + ")", 37).illAt("=SUMIFS(" + ",".repeat(30) + ")", 37)
            .ill("=SUMIFS(,|)").good("=SUMIFS(,,)", "7 7 7 " + (10 + 16 * (3 + 64 * 16)))
            .ill("=IF(1|", "=IF(1,1,1,1|", "=IF(1|;1)", "=PI(|;)");
    }

    private static void leftOut() {
        Edge.of("each is an EXPRESSION or left out; nothing between the brackets is no argument")
            .good("=f()", "11 0").good("=f(  )", "11 0").good("=f(,)", "7 7 43 0").good("=f( , )", "7 7 43 0")
            .good("=f(1,)", ONE + " 7 43 0").good("=f(,1)", "7 " + ONE + " 43 0").good("=f(,,)", "7 7 7 59 0")
            .ill("=(|)", "=(|,)", "=f((|))", "=f((|,))", "=f(1+|)", "=f(1+|,1)", "=f(-|)", "=f(-|,)", "=f(1,-|)")
            .ill("=|,", "=1|,");
    }

    private static void sixty() {
        String[] opens = {"(", "SUM(", "f("};
        String[] codes = {" 249", " 26", " 27 0"};
        Edge edge = Edge.of("at most 60 of ( { and CALLS are in one another; ILL at a 61st (a CALL at its WORD)");
        for (int k = 0; k < opens.length; k++) {
            String sixty = "=" + opens[k].repeat(60);
            String sixtyOne = sixty + opens[k] + "1" + ")".repeat(61);
            edge.good(sixty + "1" + ")".repeat(60), ONE + codes[k].repeat(60));
            edge.illAt(sixtyOne, sixty.length()).illAt(sixty + " " + opens[k], sixty.length() + 1)
                .illAt(sixty + "{1}" + ")".repeat(60), sixty.length()).illAt(sixty + "-(1", sixty.length() + 1)
                .illAt(sixty + "g()", sixty.length()).illAt(sixty + "PI()", sixty.length())
                .illAt(sixty + "1+(1)", sixty.length() + 2).illAt(sixty + "1+{1}", sixty.length() + 2)
                .illAt(sixty, sixty.length()).illAt(sixty + "1" + ")".repeat(59), sixty.length() + 60);
            edge.good("=" + opens[k].repeat(59) + "{1}" + ")".repeat(59), ONE + " 24 1" + codes[k].repeat(59));
        }
    }

    private static void sixtyOfAllKinds() {
        String mixed = "=" + "(SUM(f(".repeat(20);
        String codes = " 27 0 26 249".repeat(20);
        Edge.of("60 of all kinds")
            .good(mixed + "1" + ")".repeat(60), ONE + codes).illAt(mixed + "(1", 141).illAt(mixed + "{1", 141)
            .illAt(mixed + "PI()", 141).illAt(mixed + "-g()", 142)
            .good(mixed + "A1" + ")".repeat(60), "4 -1 1 1" + codes);
        String one = "(".repeat(60) + "1" + ")".repeat(60);
        String code = ONE + " 249".repeat(60);
        Edge.of("60 in one another, not 60 in all")
            .good("=" + one + "+" + one, code + " " + code + " 121")
            .good("=((1)+(1))", ONE + " 249 " + ONE + " 249 121 249")
            .good("=(1)" + "+(1)".repeat(61), ONE + " 249" + (" " + ONE + " 249 121").repeat(61))
            .good("={1}" + "+{1}".repeat(61), ONE + " 24 1" + (" " + ONE + " 24 1 121").repeat(61))
            .good("=PI()" + "+PI()".repeat(61), "135178" + " 135178 121".repeat(61))
            .illAt("=" + one + "+(" + one, 183);
    }

    private static void endsTooEarly() {
        Edge.of("at the text's length, if it ends too early", "S")
            .ill("=|", "=   |", "=-|", "=+|", "=1+|", "=1+  |", "=1<>|", "=(|", "=(1|", "=(1  |", "=((1)|", "=f(|")
            .ill("=f(1|")
            .ill("=f(1,|", "=f(,|", "=f(  |", "={|", "={1|", "={1,|", "={1;|", "={-|", "={-  |", "={1  |", "=S!|")
            .ill("=f({1}|")
            .ill("=PI(|", "=IF(1,1,1,1|", "=a^|", "=a%+|")
            .illAt("=" + "1+".repeat(511) + " ", 1024).illAt("=" + "-".repeat(1023), 1024)
            .illAt("=(1" + " ".repeat(1021), 1024);
    }

    private static void closes() {
        Edge.of("what can't stand there")
            .ill("=1|)", "=|)", "=(1)|)", "=f(1)|)", "=(1|}", "=(1|,1)", "=(1|;1)", "=1|,1", "=1|;1", "=1|}")
            .ill("={1|)", "=f(1|}")
            .ill("=f(1|;1)", "=f((1|,1))", "=f(1,(1|,1))", "={1}|}", "=1|{1}", "=1|(1)", "=(1)|(1)", "=(1)|1")
            .ill("={1}|1", "=f()|1")
            .ill("=1 |1", "=a |a", "=A1 |A1", "=\"a\" |\"a\"", "=TRUE |FALSE", "=#N/A |#N/A", "=1 |a", "=1 |A1")
            .ill("=1 |f(1)")
            .ill("=1 |TRUE", "=1 |$A$1", "=1 |.5", "=1 |#N/A", "=1 |\"a\"", "=1 |'a", "=1 |\"a", "=1 |#", "=1 |$")
            .ill("=1 |1E", "=1 |:");
    }

    private static void longestTexts() {
        Edge.of("a text has at most 1024 characters")
            .good("=" + "-".repeat(1022) + "a", "6" + " 217".repeat(1022))
            .good("=a" + "%".repeat(1022), "6" + " 201".repeat(1022))
            .good("=1" + "+1".repeat(511), ONE + (" " + ONE + " 121").repeat(511))
            .good("=1" + "^1".repeat(511), ONE + (" " + ONE + " 185").repeat(511))
            .good("=1:1" + "+1:1".repeat(255), Edge.range(32, 1, 1, 1, 16384)
                + (" " + Edge.range(32, 1, 1, 1, 16384) + " 121").repeat(255))
            .good("=A1" + "+A1".repeat(340), Edge.place(1, 1) + (" " + Edge.place(1, 1) + " 121").repeat(340))
            .good("=" + "(".repeat(60) + "-".repeat(902) + "a" + ")".repeat(60),
                "6" + " 217".repeat(902) + " 249".repeat(60))
            .illAt("=" + "-".repeat(1022) + "~", 1023).illAt("=a" + "%".repeat(1021) + "a", 1023);
    }
}
