/** Promises 5, 8 and 9: names, what they are called, and that there are at most 200. */
public final class NamesTest {
    public static void main(String[] args) {
        inTheirOrder();
        atMost200();
        manyInOneText();
        Check.finish();
    }

    private static void inTheirOrder() {
        FormulaCode x = new FormulaCode();
        Check.same("names", Check.code(x, "=Rate*foo(rATE,Bar_1.x)+SUM(RATE)"), "6 6 38 43 1 153 6 26 121");
        Check.same("names()", x.names(), 3);
        Check.same("name 0", Check.name(x, 0), "Rate");
        Check.same("name 1", Check.name(x, 1), "foo");
        Check.same("name 2", Check.name(x, 2), "Bar_1.x");
        int[][] none = {{0, 4}, {0, -1}, {1, 3}, {2, 7}, {3, 0}, {-1, 0}, {200, 0}, {Integer.MAX_VALUE, 0},
            {Integer.MIN_VALUE, 0}, {0, Integer.MAX_VALUE}, {2, Integer.MAX_VALUE}, {2, Integer.MIN_VALUE}};
        for (int[] at : none) {
            Check.same("name(" + at[0] + ", " + at[1] + ")", x.name(at[0], at[1]), 0);
        }
        Check.same("an ill text", Check.code(x, "=new1.a+new2.b+"), "IllegalArgumentException");
        Check.same("has no names", x.names(), 3);
        Check.same("nor their letters", x.name(3, 0), 0);
        Check.same("the next text", Check.code(x, "=NEW2.b+foo"), "54 22 121");
        Check.same("name 3", Check.name(x, 3), "NEW2.b");
        Check.same("a name's longest", Check.code(x, "=" + "q".repeat(40)), "70");
        Check.same("name 4", Check.name(x, 4), "q".repeat(40));
        Check.same("TRUE is no name", Check.code(x, "=TRUE&A1&sum(1)"), "18 4 -1 1 1 105 0 0 1 0 26 105");
        Check.same("names() at last", x.names(), 5);
    }

    private static String names(int from, int to) {
        StringBuilder formula = new StringBuilder("=");
        for (int n = from; n < to; n++) {
            formula.append(n == from ? "" : "+").append("n_").append(n);
        }
        return formula.toString();
    }

    private static void atMost200() {
        FormulaCode x = new FormulaCode();
        Check.code(x, names(0, 100));
        Check.code(x, names(100, 199));
        Check.same("199", x.names(), 199);
        Check.same("two too many", Check.code(x, "=n_198+more+most"), "IllegalStateException");
        Check.same("it isn't ill", x.illAt(), FormulaCode.NONE);
        Check.same("names stay", x.names(), 199);
        Check.same("code stays", x.word(0), 6 + 16 * 100);
        Check.same("both wrong", Check.code(x, "=n_198+more+most+"), "IllegalArgumentException");
        Check.same("both wrong, at", x.illAt(), 17);
        Check.same("the last one", Check.code(x, "=most(MOST)"), (6 + 16 * 199) + " 27 199");
        Check.same("200", x.names(), 200);
        Check.same("no other", Check.code(x, "=f()"), "IllegalStateException");
        Check.same("an old one", Check.code(x, "=N_0"), "6");
        Check.same("name 199", Check.name(x, 199), "most");
    }

    private static void manyInOneText() {
        FormulaCode x = new FormulaCode();
        StringBuilder formula = new StringBuilder("=");
        for (int n = 0; n < 201; n++) {
            formula.append((char) ('a' + n / 26)).append((char) ('a' + n % 26)).append('+');
        }
        String all = formula.toString();
        Check.same("201 at once", Check.code(x, all + "1"), "IllegalStateException");
        Check.same("none of them", x.names(), 0);
        Check.same("no code", x.word(0), 0);
        Check.same("201 and ill", Check.code(x, all), "IllegalArgumentException");
        Check.same("200 at once", Check.code(x, all.substring(0, all.length() - 3) + "1").length() > 0, true);
        Check.same("all of them", x.names(), 200);
        Check.same("name 199", Check.name(x, 199), "hr");
    }
}
