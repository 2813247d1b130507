/** Promises 1 to 10: the edges of tape, text, sheets, names and code, and what stays when a call is refused. */
public final class StateEdgesTest {
    private static final String ILL = "IllegalArgumentException";
    private static final String STATE = "IllegalStateException";
    private static final int[] FAR = {-1, Integer.MIN_VALUE, Integer.MIN_VALUE + 1, Integer.MAX_VALUE, 1 << 30};

    public static void main(String[] args) {
        newObject();
        fullTape();
        refusedFeedChangesNothing();
        bytesOfFeed();
        lengthsOfTexts();
        refusedEndChangesNothing();
        lengthsOfSheets();
        charactersOfSheets();
        sameSheets();
        nineSheets();
        refusedSheetChangesNothing();
        twoHundredNames();
        namesOfCalls();
        refusedCompileChangesNothing();
        nothingIsLeftOfIllTexts();
        placesOfIll();
        numbersOfCode();
        charactersOfNames();
        partsOfReferences();
        fiveHundredTwelveCalls();
        Check.finish();
    }

    private static void newObject() {
        Check.same("new: nothing on the tape", new FormulaCode().end(1), false);
        FormulaCode x = new FormulaCode();
        Check.same("new: an empty text is no sheet", Check.sheetOfText(x), ILL);
        Check.same("new: nor a formula", Check.compile(x), ILL);
        Check.same("new: it is ill at 0", x.illAt(), 0);
        x = new FormulaCode();
        Check.same("new: illAt()", x.illAt(), FormulaCode.NONE);
        Check.same("new: names()", x.names(), 0);
        Check.same("new: print()", x.print(), 0);
        Check.same("new: word(0)", x.word(0), 0);
        Check.same("new: output(0)", x.output(0), 0);
        Check.same("new: name(0, 0)", x.name(0, 0), 0);
        for (int what = 0; what <= 4; what++) {
            Check.same("new: reference(0, " + what + ")", x.reference(0, what), FormulaCode.NONE);
        }
        for (int far : FAR) {
            Check.same("new: word(" + far + ")", x.word(far), 0);
            Check.same("new: output(" + far + ")", x.output(far), 0);
            Check.same("new: name(" + far + ", 0)", x.name(far, 0), 0);
            Check.same("new: name(0, " + far + ")", x.name(0, far), 0);
            Check.same("new: reference(" + far + ", 0)", x.reference(far, 0), FormulaCode.NONE);
            Check.same("new: reference(0, " + far + ")", x.reference(0, far), FormulaCode.NONE);
        }
        x.again();
        Check.same("new: nothing printed", Check.sheetOfText(x), ILL);
        Check.same("new: the first sheet", Check.sheet(x, "S"), "0");
    }

    /** Feeds an empty tape with 1040 bytes: a formula of 1024 that ends with a sign, and 16 more. */
    private static void fill(FormulaCode x, String last) {
        String formula = "=" + " ".repeat(1022) + last;
        Check.same("52 feeds", Check.feed(x, formula + "1".repeat(16)), true);
    }

    private static void fullTape() {
        FormulaCode x = new FormulaCode();
        for (int k = 1; k <= 51; k++) {
            Check.same("feed " + k, x.feed(0, 0, 0, 0, 0), true);
        }
        Check.same("1020 bytes: no 1021", x.end(1021), false);
        Check.same("feed to 1040", x.feed(0, 0, 0, 0, 0), true);
        Check.same("feed of 1040", x.feed(0, 0, 0, 0, 0), false);
        Check.same("once more", x.feed(-1, -1, -1, -1, -1), false);
        Check.same("cut", x.end(1), true);
        Check.same("then there is room again", x.feed(0, 0, 0, 0, 0), true);
    }

    private static void refusedFeedChangesNothing() {
        FormulaCode x = new FormulaCode();
        fill(x, "7");
        Check.same("a 53rd feed", x.feed(0x3d393939, 0x39393939, 0x39393939, 0x39393939, 0x39393939), false);
        Check.same("1024 of it", x.end(1024), true);
        Check.same("what was fed before", Check.compile(x), "4");
        Check.same("is there", x.word(2), 7);
        Check.same("nothing is left on the tape", x.end(1), false);
    }

    private static void bytesOfFeed() {
        FormulaCode x = new FormulaCode();
        Check.same("feed", x.feed(0x3d226162, 0x63646566, 0x6768696a, 0x6b6c6d6e, 0x6f707122), true);
        Check.same("end(20)", x.end(20), true);
        Check.same("the highest of a first", Check.compile(x), "6");
        Check.same("17 characters", Check.code(x, 6), "273 1633837924 1701209960 1768581996 1835954032 1895825408");
        x.feed(0x3d31ff00, -1, -1, -1, -1);
        x.end(3);
        Check.same("byte 255", Check.compile(x), ILL);
        Check.same("is at its place", x.illAt(), 2);
        x.feed(0xff3d3132, 0, 0, 0, 0);
        x.end(4);
        Check.same("a highest byte 255", Check.compile(x), ILL);
        Check.same("is the first one", x.illAt(), 0);
        x.feed(0, 0, 0, 0, 0);
        x.end(20);
        Check.same("bytes 0 are bytes", Check.sheetOfText(x), ILL);
    }

    private static void lengthsOfTexts() {
        FormulaCode x = new FormulaCode();
        fill(x, "7");
        Check.same("end(1041)", x.end(1041), false);
        Check.same("end(1040)", x.end(1040), false);
        Check.same("end(1025)", x.end(1025), false);
        for (int far : FAR) {
            Check.same("end(" + far + ")", x.end(far), false);
        }
        Check.same("end(1024)", x.end(1024), true);
        Check.same("1024 characters", Check.compile(x), "4");
        fill(x, "+");
        Check.same("end(1024) again", x.end(1024), true);
        Check.same("the 1024th", Check.compile(x), ILL);
        Check.same("is read", x.illAt(), 1023 + 1);
        fill(x, "7");
        Check.same("end(1023)", x.end(1023), true);
        Check.same("the 1024th isn't there", Check.compile(x), ILL);
        Check.same("1023 characters", x.illAt(), 1023);
        Check.feed(x, "=12345678901234E0123");
        Check.same("end(21) of 20", x.end(21), false);
        Check.same("end(20) of 20", x.end(20), true);
        Check.same("20 characters", Check.compile(x), ILL);
        Check.same("to the last", x.illAt(), 19);
        Check.feed(x, "=12345678901234E0123");
        Check.same("end(19) of 20", x.end(19), true);
        Check.same("19 characters", Check.compile(x), "4");
        Check.same("end(1) of nothing", x.end(1), false);
        Check.same("the text is there", Check.compile(x), "4");
        Check.same("end(0) of nothing", x.end(0), true);
        Check.same("an empty text", Check.compile(x), ILL);
        Check.same("is ill at 0", x.illAt(), 0);
        Check.feed(x, "=1");
        Check.same("end(0) of 20", x.end(0), true);
        Check.same("the tape is empty then", x.end(1), false);
    }

    private static void refusedEndChangesNothing() {
        FormulaCode x = new FormulaCode();
        Check.text(x, "=1");
        Check.feed(x, "=2+");
        int[] refused = {21, 1024, 1025, 1040, 1041, -1, Integer.MIN_VALUE, Integer.MAX_VALUE};
        for (int n : refused) {
            Check.same("end(" + n + ") of 20", x.end(n), false);
        }
        Check.same("the text stays", Check.compile(x), "4");
        Check.same("it is =1", x.word(2), 1);
        Check.same("the tape stays", x.end(2), true);
        Check.same("and is the text", Check.compile(x), "4");
        Check.same("which is =2", x.word(2), 2);
    }

    private static void lengthsOfSheets() {
        FormulaCode x = new FormulaCode();
        Check.same("no character", Check.sheet(x, ""), ILL);
        Check.same("32 characters", Check.sheet(x, "s".repeat(32)), ILL);
        Check.same("1024 characters", Check.sheet(x, "s".repeat(1024)), ILL);
        Check.same("1 character", Check.sheet(x, "s"), "0");
        Check.same("31 characters", Check.sheet(x, "s".repeat(31)), "1");
        Check.same("30 characters", Check.sheet(x, "s".repeat(30)), "2");
        Check.same("the longest", Check.code(x, "=" + "S".repeat(31) + "!A1"), "4 1 1 1");
    }

    private static void charactersOfSheets() {
        FormulaCode x = new FormulaCode();
        int[] wrong = {0, 9, 31, 127, 128, 160, 255};
        for (int c : wrong) {
            Check.same("character " + c, Check.sheet(x, String.valueOf((char) c)), ILL);
            Check.same("a last character " + c, Check.sheet(x, "abc" + (char) c), ILL);
            Check.same("a first character " + c, Check.sheet(x, (char) c + "abc"), ILL);
        }
        Check.same("character 32", Check.sheet(x, " "), "0");
        Check.same("character 126", Check.sheet(x, "~"), "1");
        Check.same("any between", Check.sheet(x, "!\"#$%&'()*+,-./"), "2");
        Check.same("no character is a mark", Check.sheet(x, ":;<=>?@[\\]^_`{|}"), "3");
        Check.same("in a formula", Check.code(x, "='!\"#$%&''()*+,-./'!A1+':;<=>?@[\\]^_`{|}'!B2"),
            "4 2 1 1 4 3 2 2 121");
        Check.same("blanks in a formula", Check.code(x, "=' '!A1"), "4 0 1 1");
        Check.same("as they are", Check.printed(x), "=' '!A1");
    }

    private static void sameSheets() {
        FormulaCode x = Check.fresh("azAZ@[`{", "D");
        String[] same = {"azAZ@[`{", "AZAZ@[`{", "azaz@[`{", "AzAz@[`{", "d", "D"};
        for (String name : same) {
            Check.same("one has the name " + name, Check.sheet(x, name), STATE);
        }
        String[] others = {"azAZ`[`{", "azAZ@{`{", "azAZ@[@{", "azAZ@[`[", "D ", " D"};
        for (int k = 0; k < others.length; k++) {
            Check.same("none has the name " + others[k], Check.sheet(x, others[k]), String.valueOf(2 + k));
        }
    }

    private static void nineSheets() {
        FormulaCode x = new FormulaCode();
        for (int k = 0; k < 8; k++) {
            Check.same("sheet " + k, Check.sheet(x, "S" + k), String.valueOf(k));
        }
        Check.same("a ninth", Check.sheet(x, "S8"), STATE);
        Check.same("one that is there", Check.sheet(x, "s0"), STATE);
        Check.same("a wrong ninth", Check.sheet(x, "s".repeat(32)), ILL);
        Check.same("the ninth isn't there", Check.code(x, "=S8!A1"), ILL);
        Check.same("at its name", x.illAt(), 1);
        Check.same("the eighth", Check.code(x, "=S7!A1"), "4 7 1 1");
        Check.same("the first", Check.code(x, "=S0!A1"), "4 0 1 1");
    }

    private static void refusedSheetChangesNothing() {
        FormulaCode x = Check.fresh("A");
        Check.same("a name that is there", Check.sheet(x, "a"), STATE);
        Check.same("no name", Check.sheet(x, ""), ILL);
        Check.same("a wrong name", Check.sheet(x, "b\u0000"), ILL);
        Check.same("the next number is 1", Check.sheet(x, "=1"), "1");
        Check.same("its text stays", Check.compile(x), "4");
        Check.same("and is refused", Check.sheetOfText(x), STATE);
        Check.same("the text still stays", Check.compile(x), "4");
        Check.text(x, "=\"" + "x".repeat(40) + "\"");
        Check.same("a long one", Check.sheetOfText(x), ILL);
        Check.same("stays the text", Check.compile(x), "11");
        Check.same("illAt isn't sheet's", x.illAt(), FormulaCode.NONE);
        Check.same("a sheet as it came", Check.code(x, "=a!A1"), "4 0 1 1");
        Check.same("is printed so", Check.printed(x), "=A!A1");
    }

    /** Names aa, ab, .. in one formula. */
    private static String manyNames(int from, int to) {
        StringBuilder formula = new StringBuilder("=");
        for (int n = from; n < to; n++) {
            formula.append(n == from ? "" : "+").append((char) ('a' + n / 26)).append((char) ('a' + n % 26));
        }
        return formula.toString();
    }

    private static void compileDue(FormulaCode x, String formula, String answer, int names) {
        Check.text(x, formula);
        Check.same("compile of " + formula, Check.compile(x), answer);
        Check.same("names of " + formula, x.names(), names);
    }

    private static void twoHundredNames() {
        FormulaCode x = new FormulaCode();
        compileDue(x, manyNames(0, 201), STATE, 0);
        Check.same("201 names are not ill", x.illAt(), FormulaCode.NONE);
        compileDue(x, manyNames(0, 201) + "+", ILL, 0);
        Check.same("201 names and ill", x.illAt(), 604);
        compileDue(x, manyNames(0, 200), "399", 200);
        Check.same("the 200th", Check.name(x, 199), "hr");
        compileDue(x, "=hs", STATE, 200);
        compileDue(x, "=hr+HR+aa(Aa)", "7", 200);
        compileDue(x, "=hr+hs", STATE, 200);
        compileDue(x, "=hs+", ILL, 200);
        Check.same("the code stays", Check.code(x, 8), "3190 3190 121 6 27 0 121 0");
        x = new FormulaCode();
        compileDue(x, manyNames(0, 199), "397", 199);
        compileDue(x, manyNames(199, 201), STATE, 199);
        compileDue(x, manyNames(198, 200), "3", 200);
        compileDue(x, manyNames(0, 200), "399", 200);
        compileDue(x, "=SUM(A1,TRUE)", "6", 200);
    }

    private static void namesOfCalls() {
        FormulaCode x = new FormulaCode();
        compileDue(x, manyNames(0, 199), "397", 199);
        compileDue(x, "=f(g())", STATE, 199);
        compileDue(x, "=f(f())", "4", 200);
        Check.same("a call's WORD is a NAME", Check.code(x, 4), "11 199 27 199");
        compileDue(x, "=g()", STATE, 200);
        compileDue(x, "=F", "1", 200);
        Check.same("the same as a NAME", x.word(0), 6 + 16 * 199);
        compileDue(x, "=SUM(1)+PI()", "7", 200);
    }

    private static void refusedCompileChangesNothing() {
        String[] refused = {"=new+", manyNames(0, 201), "", "=nope!A1+other", "=new(a.b", "={new}",
            "=new+" + "x".repeat(41)};
        for (String formula : refused) {
            FormulaCode x = Check.fresh("S");
            Check.same("before", Check.code(x, "=Kept+s!A1"), "6 4 0 1 1 121");
            x.print();
            Check.text(x, formula);
            Check.feed(x, "=8");
            Check.same("refused: " + formula, Check.compile(x).startsWith("Illegal"), true);
            Check.same("names stay", x.names(), 1);
            Check.same("name 0 stays", Check.name(x, 0), "Kept");
            Check.same("there is no name 1", x.name(1, 0), 0);
            Check.same("code stays", Check.code(x, 7), "6 4 0 1 1 121 0");
            Check.same("references stay", x.reference(0, 0), 0);
            Check.same("output stays", x.output(1), (int) 'K');
            Check.same("the text stays", Check.compile(x).startsWith("Illegal"), true);
            Check.same("print of what stays", Check.printed(x), "=Kept+S!A1");
            Check.same("the tape stays", x.end(2), true);
            Check.same("sheets stay", Check.sheet(x, "T"), "1");
            Check.same("a name that came only now", Check.code(x, "=NEW+kept"), "22 6 121");
            Check.same("as it came now", Check.printed(x), "=NEW+Kept");
        }
    }

    private static void nothingIsLeftOfIllTexts() {
        String[] refused = {
            "=" + "f(1,".repeat(60), "=" + "(".repeat(61), "=" + "f(,,".repeat(60) + "{1,2;3", "={1,2;3,4",
            "=" + "-".repeat(1023), "=1+2*3^(", "=SUM(1,2,3;", "=" + "1^".repeat(511), "=\"abc", "='T'!A1",
            "=1E999+10E999",
        };
        for (String formula : refused) {
            FormulaCode x = Check.fresh("S");
            Check.text(x, formula);
            Check.same("ill: " + formula, Check.compile(x), ILL);
            Check.text(x, "=f(1,-2,,{3;4})+IF(S!A1,g())^\"x\"");
            Check.same("behind " + formula, Check.compile(x), "33");
            Check.same("behind " + formula, Check.code(x, 34), "0 0 1 0 0 0 2 0 217 7 0 0 3 0 0 0 4 0 40 1 75 0 "
                + "4 0 1 1 11 1 50218 17 2013265920 185 121 0");
            Check.same("printed behind " + formula, Check.printed(x), "=f(1,-2,,{3;4})+IF(S!A1,g())^\"x\"");
        }
    }

    private static void placesOfIll() {
        FormulaCode x = new FormulaCode();
        compileDue(x, "1", ILL, 0);
        Check.same("the first place", x.illAt(), 0);
        Check.text(x, "=1");
        Check.same("no new compile", x.illAt(), 0);
        Check.same("a good one", Check.compile(x), "4");
        Check.same("nowhere", x.illAt(), FormulaCode.NONE);
        compileDue(x, "=" + "-".repeat(1023), ILL, 0);
        Check.same("the last place", x.illAt(), 1024);
        x.print();
        x.again();
        Check.sheetOfText(x);
        Check.same("other calls leave it", x.illAt(), 1024);
        compileDue(x, manyNames(0, 201), STATE, 0);
        Check.same("too many names aren't ill", x.illAt(), FormulaCode.NONE);
        compileDue(x, "=+", ILL, 0);
        Check.same("the latest", x.illAt(), 2);
    }

    private static void numbersOfCode() {
        FormulaCode x = new FormulaCode();
        Check.text(x, "=7+8");
        Check.same("compile()", Check.compile(x), "9");
        Check.same("the first", x.word(0), 0);
        Check.same("the third", x.word(2), 7);
        Check.same("the last", x.word(8), 121);
        Check.same("behind it", x.word(9), 0);
        for (int far : FAR) {
            Check.same("word(" + far + ")", x.word(far), 0);
        }
        Check.text(x, "=n");
        Check.same("a shorter one", Check.compile(x), "1");
        Check.same("its only number", x.word(0), 6);
        Check.same("nothing of the longer one", x.word(2) + x.word(8), 0);
        Check.text(x, "=1" + "+1".repeat(511));
        Check.same("the longest", Check.compile(x), "2559");
        Check.same("its last number", x.word(2558), 121);
        Check.same("the one before", x.word(2556), 1);
        Check.same("none behind", x.word(2559), 0);
    }

    private static void charactersOfNames() {
        String longest = "q".repeat(39) + "Z";
        FormulaCode x = new FormulaCode();
        compileDue(x, "=_+" + longest, "3", 2);
        Check.same("the first", x.name(0, 0), (int) '_');
        Check.same("behind the first", x.name(0, 1), 0);
        Check.same("the 40th", x.name(1, 39), (int) 'Z');
        Check.same("the 39th", x.name(1, 38), (int) 'q');
        Check.same("no 41st", x.name(1, 40), 0);
        Check.same("no third name", x.name(2, 0), 0);
        for (int far : FAR) {
            Check.same("name(0, " + far + ")", x.name(0, far), 0);
            Check.same("name(1, " + far + ")", x.name(1, far), 0);
            Check.same("name(" + far + ", 0)", x.name(far, 0), 0);
        }
    }

    private static void partsOfReferences() {
        FormulaCode x = Check.fresh("S", "T");
        Check.same("code", Check.code(x, "=T!$D$3:B9+C5+\"A1\"+S!E:c+4:2").split(" ").length, 28);
        int[][] due = {{1, 3, 2, 9, 4}, {-1, 5, 3, 5, 3}, {0, 1, 3, 1048576, 5}, {-1, 2, 1, 4, 16384}};
        for (int k = 0; k < due.length; k++) {
            for (int what = 0; what <= 4; what++) {
                Check.same("reference(" + k + ", " + what + ")", x.reference(k, what), due[k][what]);
            }
            Check.same("what 5", x.reference(k, 5), FormulaCode.NONE);
            for (int far : FAR) {
                Check.same("what " + far, x.reference(k, far), FormulaCode.NONE);
                Check.same("k " + far, x.reference(far, k), FormulaCode.NONE);
            }
        }
        for (int what = 0; what <= 4; what++) {
            Check.same("no fifth", x.reference(4, what), FormulaCode.NONE);
        }
        Check.text(x, "=A1" + "+A1".repeat(339) + "+B2");
        Check.same("the most places", Check.compile(x), String.valueOf(341 * 5 - 1));
        Check.same("the last", x.reference(340, 2), 2);
        Check.same("behind it", x.reference(341, 2), FormulaCode.NONE);
        // The numbers of a string and of a number that look like a reference's first one are none.
        Check.text(x, "=\"" + "\u0020\u0020\u0020\u0024".repeat(3) + "\"&4&5&{4,5}&A9");
        Check.compile(x);
        Check.same("the only one", x.reference(0, 1), 9);
        Check.same("no other", x.reference(1, 1), FormulaCode.NONE);
    }

    private static void fiveHundredTwelveCalls() {
        FormulaCode x = new FormulaCode();
        int calls = 0;
        for (int round = 0; calls + 6 <= 512; round++) {
            int digit = round % 10;
            x.feed(0x3d000000 | ('0' + digit) << 16, 0, 0, 0, 0);
            x.end(2);
            Check.same("compile of round " + round, Check.compile(x), "4");
            Check.same("word of round " + round, x.word(2), digit);
            Check.same("print of round " + round, x.print(), 2);
            Check.same("output of round " + round, x.output(1), '0' + digit);
            calls += 6;
        }
        Check.same("call 511", x.end(1), false);
        Check.same("call 512", x.names(), 0);
    }
}
