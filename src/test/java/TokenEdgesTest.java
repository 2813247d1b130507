/** "Terms": the edges of blanks, STRINGS, ERRORS, WORDS, TRUE, FALSE and signs. */
public final class TokenEdgesTest {
    public static void main(String[] args) {
        blanks();
        theFirstSign();
        strings();
        errors();
        words();
        logicals();
        signs();
        Check.finish();
    }

    private static void blanks() {
        Edge.of("any blanks (32) between TOKENS", "S")
            .good("=  -  SUM(  A1  ,  ,  {  -  1  ,  \"a\"  ;  TRUE  ,  #N/A  }  )  %  ^  (  n  )  <=  'S'!A1  ",
                "4 -1 1 1 7 16 0 1 0 17 1627389952 18 115 40 2 58 217 201 6 249 185 4 0 1 1 57")
            .good("=" + " ".repeat(1022) + "a", "6").good("=a" + " ".repeat(1022), "6")
            .ill("=|\t1", "=|\u001f1", "=|!1", "=|\n1", "=|\u00a01", "=1|\t", "=1|\u001f", "=1|!", "={1|\t}", "=f(|\t)")
            .ill("=|\u0000", "=1|\u0000", "=1+|\u0000", "=1|\u0000\u0000");
        Edge.of("between, not in them", "S")
            .ill("=1 |.5", "=|# N/A", "=|#N/ A", "=A |1", "=|$ A1", "=A|$ 1", "=A1 |:B2", "=A1|: B2", "=A |:B")
            .ill("=A|: B")
            .ill("=1 |:2", "=1|: 2", "=S |!A1", "=S!| A1", "=|'S' !A1", "=SUM |(1)", "=f |()", "=TR |UE", "=a |b")
            .ill("=1< |>2", "=1< |=2", "=1> |=2", "={|TR UE}");
    }

    private static void theFirstSign() {
        Edge.of("at 0 without =")
            .good("=1", "0 0 1 0").ill("|", "|1", "| =1", "|A1", "|\"=1\"", "|<=1", "|\u0000=1", "|+1")
            .ill("=|=1", "=|").illAt(" ".repeat(1024), 0);
    }

    private static void strings() {
        Edge.of("between \" at most 255 characters")
            .good("=\"\"", "1").ill("=|\"", "=|\"a", "=|\"\"\"", "=|\"a\"\"", "=1&|\"", "={|\"}", "=|\"a'")
            .good("=\"" + "a".repeat(255) + "\"", (1 + 16 * 255) + " 1633771873".repeat(63) + " 1633771776")
            .illAt("=\"" + "a".repeat(256) + "\"", 1).illAt("=1&\"" + "a".repeat(256) + "\"", 3)
            .illAt("=\"" + "a".repeat(1021) + "\"", 1).illAt("={\"" + "a".repeat(256) + "\"}", 2)
            .good("={\"" + "a".repeat(255) + "\"}", (1 + 16 * 255) + " 1633771873".repeat(63) + " 1633771776 24 1");
        Edge.of("\"\" standing for one \"")
            .good("=\"\"\"\"", "17 570425344").good("=\"a\"\"b\"", "49 1629643264")
            .good("=\"" + "\"\"".repeat(255) + "\"", (1 + 16 * 255) + " 572662306".repeat(63) + " 572662272")
            .illAt("=\"" + "\"\"".repeat(256) + "\"", 1)
            .good("=\"" + "a".repeat(254) + "\"\"\"", (1 + 16 * 255) + " 1633771873".repeat(63) + " 1633755648")
            .illAt("=\"" + "a".repeat(255) + "\"\"\"", 1)
            .ill("=\"a\" |\"b\"", "=\"a\"|'b'");
        Edge.of("characters 32 .. 126")
            .good("=\" ~\"", "33 545128448").good("=\" \"", "17 536870912").good("=\"~\"", "17 2113929216")
            .ill("=|\"\u001f\"", "=|\"\u007f\"", "=|\"\u0080\"", "=|\"\u00ff\"", "=|\"\u0000\"", "=|\"a\tb\"")
            .ill("=|\"\"\"\u007f\"", "={|\"\u007f\"}");
        Edge.of("four in a number, the first in the highest byte, 0 for those that aren't")
            .good("=\"a\"", "17 1627389952").good("=\"ab\"", "33 1633812480").good("=\"abc\"", "49 1633837824")
            .good("=\"abcd\"", "65 1633837924").good("=\"abcde\"", "81 1633837924 1694498816")
            .good("=\"abcdefgh\"", "129 1633837924 1701209960")
            .good("=\"abcdefghi\"", "145 1633837924 1701209960 1761607680");
        Edge.of("letters great or small are not the same in texts")
            .good("=\"aA\"=\"Aa\"", "33 1631649792 33 1096876032 9");
    }

    private static void errors() {
        String[] texts = {"#NULL!", "#DIV/0!", "#VALUE!", "#REF!", "#NAME?", "#NUM!", "#N/A"};
        Edge edge = Edge.of("ERRORS have numbers 1 .. 7");
        for (int k = 0; k < texts.length; k++) {
            String shorter = texts[k].substring(0, texts[k].length() - 1);
            edge.good("=" + texts[k], String.valueOf(3 + 16 * (k + 1)))
                .good("=" + texts[k].toLowerCase(), String.valueOf(3 + 16 * (k + 1)))
                .good("={" + texts[k] + "}", 3 + 16 * (k + 1) + " 24 1")
                .ill("=|" + shorter, "=|" + shorter + "x", "={|" + shorter + "}", "=1+|" + shorter + " ")
                .ill("=" + texts[k] + "|x", "=" + texts[k] + "|!", "=" + texts[k] + "|" + texts[k], "=1|" + texts[k]);
        }
        edge.ill("=|#", "=|#SPILL!", "=|##N/A", "=N/A|#", "=|#NULL?", "=|#NAME!", "=|#DIV/O!");
    }

    private static void words() {
        String longest = "_" + "a".repeat(39);
        String tooLong = longest + ".";
        Edge.of("a WORD has at most 40 characters", "S")
            .good("=" + longest, "6").illAt("=" + tooLong, 1).illAt("=1+" + tooLong + "+1", 3)
            .good("=" + longest + "()", "11 0").illAt("=" + tooLong + "()", 1)
            .good("=" + longest + "(" + longest + "+1)", "6 0 0 1 0 121 27 0").illAt("=f(" + tooLong + ")", 3)
            .illAt("=" + tooLong + "!A1", 1).illAt("=" + "a".repeat(1023), 1).illAt("={" + tooLong + "}", 2)
            .illAt("=1 " + tooLong, 3).illAt("=A" + "1".repeat(40), 1).good("=A" + "1".repeat(39), "6");
        Edge.of("a letter or _, and letters, digits, _ and points")
            .good("=_", "6").good("=Z", "6").good("=a", "6").good("=z", "6").good("=_.09AZaz_", "6")
            .good("=a.", "6").good("=a..b", "6").good("=_1", "6")
            .ill("=|.a", "=1|a", "=9|_", "=|@", "=|[", "=|`", "=|\\", "=|]", "=|~", "=|?", "=|\u00e9", "=|\u007f")
            .ill("=a|@", "=a|[", "=a|`", "=a|\\", "=a|]", "=a|~", "=a|?", "=a|\u00e9", "=|a!")
            .ill("=a|$", "=a|#", "=a|'", "=a|\"", "=a|{1}", "=a|:");
        Edge.of("what might be several is a CALL if ( follows right behind, else a NAME")
            .good("=SUM", "6").good("=SUM+SUM(1)", "6 0 0 1 0 26 121").good("=TRUE()", "11 0").good("=A1()", "11 0")
            .good("=sums(1)", "0 0 1 0 27 0").good("=su(1)", "0 0 1 0 27 0").good("=ERROR.TYPE(1)", "0 0 1 0 134170")
            .good("=ERROR.TYP(1)", "0 0 1 0 27 0").good("=_SUM(1)", "0 0 1 0 27 0")
            .ill("=SUM |(1)", "=a |(1)", "=1|(1)", "=(1)|(1)", "=A1 |(1)", "=\"f\"|(1)");
    }

    private static void logicals() {
        Edge.of("TRUE and FALSE, letters great or small", "TRUE")
            .good("=TRUE", "18").good("=true", "18").good("=tRuE", "18").good("=FALSE", "2").good("=falsE", "2")
            .good("=TRU", "6").good("=TRUE1", "6").good("=TRUE.", "6").good("=_TRUE", "6").good("=FALSEE", "6")
            .good("={TRUE,false}", "18 2 24 2").ill("={|TRU}", "={|TRUE1}", "={|TRUE()}", "={|FALSE(1)}", "={-|TRUE}")
            .good("=true!A1", "4 0 1 1").ill("={|TRUE!A1}", "=|FALSE!A1", "=TRUE|:FALSE", "=TRUE |TRUE");
    }

    private static void signs() {
        String[] between = {"=", "<>", "<", "<=", ">", ">=", "&", "+", "-", "*", "/", "^"};
        Edge edge = Edge.of("signs, each as long as can be");
        for (int k = 0; k < between.length; k++) {
            edge.good("=a" + between[k] + "b", "6 22 " + (9 + 16 * k)).ill("=a" + between[k] + "|")
                .ill("=a" + between[k] + "|*b", "=a" + between[k] + "|%", "=a" + between[k] + "|)");
        }
        String[] neverFirst = {"=", "<>", "<", "<=", ">", ">=", "&", "*", "/", "^", "%", ")", ",", ";", "}", ":"};
        for (String sign : neverFirst) {
            edge.ill("=|" + sign + "1", "=(|" + sign + "1)", "=-|" + sign + "1");
        }
        edge.ill("=a=|<b", "=a=|>b", "=a>|<b", "=a<>|=b", "=a<=|=b", "=a<|<b", "=a>|>b", "=a=|=b", "=a>=|>b")
            .ill("=a|;b", "=a|,b", "=a|}", "=a|)", "=a|:_b", "=|a!b", "=a%|b", "=a%|(", "=a|{");
    }
}
