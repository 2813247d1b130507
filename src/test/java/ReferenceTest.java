/** Promise 10: reference. */
public final class ReferenceTest {
    public static void main(String[] args) {
        FormulaCode x = new FormulaCode();
        Check.sheet(x, "S");
        Check.sheet(x, "T");
        Check.code(x, "=SUM(T!$C$9:B3,\"A1\",{1,2},a,S!5:$4)+D7-f(E:c,T!A1)");
        int[][] due = {{1, 3, 2, 9, 3}, {0, 4, 1, 5, 16384}, {-1, 7, 4, 7, 4}, {-1, 1, 3, 1048576, 5}, {1, 1, 1, 1, 1}};
        for (int k = 0; k < due.length; k++) {
            for (int what = 0; what <= 4; what++) {
                Check.same("reference(" + k + ", " + what + ")", x.reference(k, what), due[k][what]);
            }
        }
        int[][] none = {{5, 0}, {-1, 0}, {0, 5}, {0, -1}, {Integer.MAX_VALUE, 1}, {Integer.MIN_VALUE, 1},
            {2, Integer.MAX_VALUE}, {2, Integer.MIN_VALUE}};
        for (int[] at : none) {
            Check.same("reference(" + at[0] + ", " + at[1] + ")", x.reference(at[0], at[1]), FormulaCode.NONE);
        }
        Check.code(x, "=A1+");
        Check.same("an ill text leaves them", x.reference(2, 1), 7);
        Check.code(x, "=1");
        Check.same("a code without any", x.reference(0, 1), FormulaCode.NONE);
        Check.finish();
    }
}
