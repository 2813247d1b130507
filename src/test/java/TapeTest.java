/** Promises 1 to 3: a new object, feed, end. */
public final class TapeTest {
    public static void main(String[] args) {
        newObject();
        feedsUntilFull();
        endsTexts();
        bytesInOrder();
        Check.finish();
    }

    private static void newObject() {
        FormulaCode x = new FormulaCode();
        Check.same("new: end(1)", x.end(1), false);
        Check.same("new: illAt()", x.illAt(), FormulaCode.NONE);
        Check.same("new: names()", x.names(), 0);
        Check.same("new: print()", x.print(), 0);
        int[] outside = {0, 1, -1, Integer.MIN_VALUE, Integer.MAX_VALUE};
        for (int k : outside) {
            Check.same("new: word", x.word(k), 0);
            Check.same("new: output", x.output(k), 0);
            Check.same("new: reference", x.reference(k, 0), FormulaCode.NONE);
            Check.same("new: name", x.name(k, 0), 0);
        }
        Check.same("new: compile()", Check.compile(x), "IllegalArgumentException");
        Check.same("new: ill place", x.illAt(), 0);
        x.again();
        Check.same("new: nothing printed is an empty text", Check.compile(x), "IllegalArgumentException");
        Check.same("new: no sheet", Check.code(x, "=A!A1"), "IllegalArgumentException");
    }

    private static void feedsUntilFull() {
        FormulaCode x = new FormulaCode();
        for (int k = 0; k < 52; k++) {
            Check.same("feed " + k, x.feed(0x3d617e20, 0x20202020, 0x20202020, 0x20202020, 0x20202020), true);
        }
        Check.same("feed of a full tape", x.feed(0, 0, 0, 0, 0), false);
        Check.same("end(1041)", x.end(1041), false);
        Check.same("end(1040)", x.end(1040), false);
        Check.same("end(1025)", x.end(1025), false);
        Check.same("end(-1)", x.end(-1), false);
        Check.same("end(least)", x.end(Integer.MIN_VALUE), false);
        Check.same("end(greatest)", x.end(Integer.MAX_VALUE), false);
        Check.same("a text that stayed", Check.compile(x), "IllegalArgumentException");
        Check.same("still full", x.feed(0, 0, 0, 0, 0), false);
        Check.same("end(1024)", x.end(1024), true);
        Check.same("=a~ is ill", Check.compile(x), "IllegalArgumentException");
        Check.same("ill at", x.illAt(), 2);
        Check.same("the tape is empty then", x.end(1), false);
        Check.same("feed of the empty tape", x.feed(0, 0, 0, 0, 0), true);
    }

    private static void endsTexts() {
        FormulaCode x = new FormulaCode();
        Check.text(x, "=1");
        Check.feed(x, "=2");
        Check.same("end(21) of 20", x.end(21), false);
        Check.same("the text stays", Check.compile(x), "4");
        Check.same("it is =1", x.word(2), 1);
        Check.same("the tape stays", x.end(2), true);
        Check.same("code of =2", Check.compile(x), "4");
        Check.same("it is =2", x.word(2), 2);
        Check.same("end(0) of nothing", x.end(0), true);
        Check.same("an empty text", Check.compile(x), "IllegalArgumentException");
        Check.feed(x, "=3");
        Check.same("end(0) of twenty", x.end(0), true);
        Check.same("nothing is left then", x.end(1), false);
    }

    private static void bytesInOrder() {
        FormulaCode x = new FormulaCode();
        Check.same("=\"abcd .. \"", Check.code(x, "=\"abcdefghijklmnopqrstuvwxyz\""),
            "417 1633837924 1701209960 1768581996 1835954032 1903326068 1970698104 2038038528");
        Check.same("bytes above 127", Check.code(x, "=\"\u00e9\""), "IllegalArgumentException");
        Check.same("are no characters", x.illAt(), 1);
        Check.same("bytes above 127 outside", Check.code(x, "=1+\u00ff"), "IllegalArgumentException");
        Check.same("are no tokens", x.illAt(), 3);
    }
}
