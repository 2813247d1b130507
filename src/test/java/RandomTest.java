import java.util.ArrayList;
import java.util.List;
import java.util.Random;

/** Formulas made by chance together with the code and the print that are due, and texts of nothing but noise. */
public final class RandomTest {
    private static final String[] SHEETS = {"Data", "It's", "A1", "x y"};
    private static final String[] SHEET_PRINTS = {"Data!", "'It''s'!", "'A1'!", "'x y'!"};
    private static final String[][] LEVELS = {{"=", "<>", "<", "<=", ">", ">="}, {"&"}, {"+", "-"}, {"*", "/"}, {"^"}};
    private static final int[] FIRST_OF_LEVEL = {0, 6, 7, 9, 11};

    private final Random random = new Random(20261115);
    private StringBuilder text;
    private StringBuilder print;
    private List<Integer> code;
    private List<String> names = new ArrayList<>();

    public static void main(String[] args) {
        RandomTest test = new RandomTest();
        for (int k = 0; k < 4000; k++) {
            test.tryFormula();
        }
        for (int k = 0; k < 4000; k++) {
            test.tryNoise();
        }
        Check.finish();
    }

    private void tryFormula() {
        text = new StringBuilder("=");
        print = new StringBuilder("=");
        code = new ArrayList<>();
        names = new ArrayList<>();
        expression(0, 3);
        if (text.length() > 1024 || names.size() > 200) {
            return;
        }
        StringBuilder due = new StringBuilder();
        for (int number : code) {
            due.append(due.length() == 0 ? "" : " ").append(number);
        }
        Check.same("code of " + text, Check.codeInParts(text.toString(), SHEETS), due.toString());
        Check.same("print of " + text, Check.printInParts(text.toString(), SHEETS), print.toString());
        if (print.length() <= 1024) {
            Check.same("code of " + print, Check.codeInParts(print.toString(), SHEETS), due.toString());
        }
        FormulaCode x = Check.fresh(SHEETS);
        Check.text(x, text.toString());
        Check.compile(x);
        Check.same("names of " + text, x.names(), names.size());
        for (int n = 0; n < names.size(); n++) {
            Check.same("a name of " + text, Check.name(x, n), names.get(n));
        }
        if (x.print() <= 1024) {
            x.again();
            Check.same("again of " + text, Check.compile(x), String.valueOf(code.size()));
        }
        text.setLength(random.nextInt(text.length()));
        Check.text(x, text.toString());
        boolean isIll = Check.compile(x).equals("IllegalArgumentException");
        Check.same("illAt of " + text, isIll ? x.illAt() >= 0 && x.illAt() <= text.length() : x.illAt() == -1, true);
    }

    private void tryNoise() {
        String signs = "=<>&+-*/^%(),;{}:!'\"$#. _019EAab\u0000\u00ff";
        StringBuilder noise = new StringBuilder("=");
        for (int k = random.nextInt(30); k > 0; k--) {
            noise.append(signs.charAt(random.nextInt(signs.length())));
        }
        FormulaCode x = Check.fresh(SHEETS);
        String answer = Check.code(x, noise.toString());
        boolean isIll = answer.startsWith("Illegal");
        Check.same("illAt of " + noise, isIll ? x.illAt() >= 1 && x.illAt() <= noise.length() : x.illAt() == -1, true);
        Check.same("print of " + noise, x.print() > 0, !isIll);
    }

    private void both(String printed) {
        text.append(" ".repeat(random.nextInt(8) == 0 ? 2 : 0)).append(printed);
        print.append(printed);
    }

    private String anyCase(String great) {
        return random.nextBoolean() ? great : great.toLowerCase();
    }

    private void token(String written, String printed) {
        text.append(" ".repeat(random.nextInt(8) == 0 ? 1 : 0)).append(written);
        print.append(printed);
    }

    private void expression(int level, int depth) {
        if (level == LEVELS.length) {
            part(depth);
            return;
        }
        expression(level + 1, depth);
        for (int more = random.nextInt(6) == 0 ? 2 : random.nextInt(4) == 0 ? 1 : 0; more > 0; more--) {
            int k = random.nextInt(LEVELS[level].length);
            both(LEVELS[level][k]);
            expression(level + 1, depth);
            code.add(9 + 16 * (FIRST_OF_LEVEL[level] + k));
        }
    }

    private void part(int depth) {
        boolean[] isMinus = new boolean[random.nextInt(5) == 0 ? 2 : 0];
        for (int k = 0; k < isMinus.length; k++) {
            isMinus[k] = random.nextBoolean();
            both(isMinus[k] ? "-" : "+");
        }
        atom(depth);
        for (int k = isMinus.length - 1; k >= 0; k--) {
            code.add(9 + 16 * (isMinus[k] ? 13 : 14));
        }
        for (int more = random.nextInt(6) == 0 ? 2 : 0; more > 0; more--) {
            both("%");
            code.add(9 + 16 * 12);
        }
    }

    private void atom(int depth) {
        switch (random.nextInt(depth > 0 ? 11 : 8)) {
            case 0: case 1: number(0); break;
            case 2: string(); break;
            case 3: logical(); break;
            case 4: reference(); break;
            case 5: range(); break;
            case 6: name(); break;
            case 7: array(); break;
            case 8:
                both("(");
                expression(0, depth - 1);
                both(")");
                code.add(9 + 16 * 15);
                break;
            default: call(depth); break;
        }
    }

    private void number(int minus) {
        long m = random.nextInt(3) == 0 ? random.nextLong(1000000000000000L) : random.nextInt(1000);
        int p = random.nextInt(60) - 30;
        java.math.BigDecimal value = new java.math.BigDecimal(java.math.BigInteger.valueOf(m), -p);
        java.math.BigDecimal least = m == 0 ? java.math.BigDecimal.ZERO : value.stripTrailingZeros();
        long mantissa = least.unscaledValue().longValueExact();
        int high = least.precision() - least.scale() - 1;
        String digits = String.valueOf(mantissa);
        String rest = digits.substring(1);
        String printed = high >= -5 && high <= 20 ? least.toPlainString()
            : digits.charAt(0) + (rest.isEmpty() ? "" : "." + rest) + (high < 0 ? "E-" : "E+")
                + (Math.abs(high) < 10 ? "0" : "") + Math.abs(high);
        token(random.nextBoolean() ? value.toPlainString() : m + anyCase("E") + p, printed);
        code.add(16 * minus);
        code.add((int) (mantissa / 1073741824));
        code.add((int) (mantissa % 1073741824));
        code.add(-least.scale());
    }

    private void string() {
        StringBuilder inside = new StringBuilder();
        for (int k = random.nextInt(10); k > 0; k--) {
            inside.append(random.nextInt(4) == 0 ? '"' : (char) (32 + random.nextInt(95)));
        }
        String quoted = "\"" + inside.toString().replace("\"", "\"\"") + "\"";
        token(quoted, quoted);
        code.add(1 + 16 * inside.length());
        for (int k = 0; k < inside.length(); k += 4) {
            int four = 0;
            for (int j = k; j < k + 4; j++) {
                four = four << 8 | (j < inside.length() ? inside.charAt(j) : 0);
            }
            code.add(four);
        }
    }

    private void logical() {
        String[] words = {"FALSE", "TRUE", "#NULL!", "#DIV/0!", "#VALUE!", "#REF!", "#NAME?", "#NUM!", "#N/A"};
        int k = random.nextInt(words.length);
        token(anyCase(words[k]), words[k]);
        code.add(k < 2 ? 2 + 16 * k : 3 + 16 * (k - 1));
    }

    private static String columnWord(int column) {
        String word = "";
        for (int rest = column; rest > 0; rest = (rest - 1) / 26) {
            word = (char) ('A' + (rest - 1) % 26) + word;
        }
        return word;
    }

    private int sheet() {
        int sheet = random.nextInt(2 * SHEETS.length) - SHEETS.length;
        if (sheet < 0) {
            token("", "");
            return -1;
        }
        boolean isBare = sheet % 2 == 0 && random.nextBoolean();
        token(anyCase(isBare ? SHEETS[sheet].toUpperCase() + "!" : "'" + SHEETS[sheet].replace("'", "''") + "'!"),
            SHEET_PRINTS[sheet]);
        return sheet;
    }

    private int some(int most) {
        if (random.nextInt(4) == 0) {
            return most - random.nextInt(3);
        }
        return 1 + random.nextInt(random.nextBoolean() ? 5 : most);
    }

    private void reference() {
        int sheet = sheet();
        int x = random.nextInt(4);
        int row = some(1048576);
        int column = some(16384);
        String great = "$".repeat(x & 1) + columnWord(column) + "$".repeat(x >> 1) + row;
        text.append(anyCase(great));
        print.append(great);
        code.addAll(List.of(4 + 16 * x, sheet, row, column));
    }

    private void range() {
        int sheet = sheet();
        int shape = random.nextInt(3);
        int[] columns = {some(16384), some(16384)};
        int[] rows = {some(1048576), some(1048576)};
        String[] columnMarks = {"$".repeat(random.nextInt(2)), "$".repeat(random.nextInt(2))};
        String[] rowMarks = {"$".repeat(random.nextInt(2)), "$".repeat(random.nextInt(2))};
        if (shape == 1) {
            rows = new int[] {1, 1048576};
            rowMarks = new String[] {"", ""};
        }
        if (shape == 2) {
            columns = new int[] {1, 16384};
            columnMarks = new String[] {"", ""};
        }
        int left = columns[0] <= columns[1] ? 0 : 1;
        int upper = rows[0] <= rows[1] ? 0 : 1;
        text.append(anyCase(side(shape, columnMarks[0], columns[0], rowMarks[0], rows[0]))).append(':');
        text.append(anyCase(side(shape, columnMarks[1], columns[1], rowMarks[1], rows[1])));
        print.append(side(shape, columnMarks[left], columns[left], rowMarks[upper], rows[upper])).append(':');
        print.append(side(shape, columnMarks[1 - left], columns[1 - left], rowMarks[1 - upper], rows[1 - upper]));
        int x = 16 * shape + columnMarks[left].length() + 2 * rowMarks[upper].length()
            + 4 * columnMarks[1 - left].length() + 8 * rowMarks[1 - upper].length();
        code.addAll(List.of(5 + 16 * x, sheet, rows[upper], columns[left], rows[1 - upper], columns[1 - left]));
    }

    private static String side(int shape, String columnMark, int column, String rowMark, int row) {
        return (shape == 2 ? "" : columnMark + columnWord(column)) + (shape == 1 ? "" : rowMark + row);
    }

    private int nameNumber(String word) {
        for (int n = 0; n < names.size(); n++) {
            if (names.get(n).equalsIgnoreCase(word)) {
                return n;
            }
        }
        names.add(word);
        return names.size() - 1;
    }

    private void name() {
        String[] words = {"RATE", "_", "A", "XFE1", "A.B", "SUM", "ABCD12", "Q_1"};
        String word = anyCase(words[random.nextInt(words.length)]);
        int number = nameNumber(word);
        token(word, names.get(number));
        code.add(6 + 16 * number);
    }

    private void array() {
        int rows = 1 + random.nextInt(3);
        int columns = 1 + random.nextInt(3);
        both("{");
        for (int k = 0; k < rows * columns; k++) {
            if (k > 0) {
                both(k % columns == 0 ? ";" : ",");
            }
            switch (random.nextInt(4)) {
                case 0: number(0); break;
                case 1: both("-"); number(1); break;
                case 2: string(); break;
                default: logical(); break;
            }
        }
        both("}");
        code.add(8 + 16 * rows);
        code.add(columns);
    }

    private void call(int depth) {
        String[] words = {"SUM", "MAX", "CONCATENATE", "FOO", "TRUE", "A1"};
        int[] functions = {0, 8, 79, -1, -1, -1};
        int k = random.nextInt(words.length);
        String word = anyCase(words[k]);
        int number = functions[k] < 0 ? nameNumber(word) : functions[k];
        token(word + "(", (functions[k] < 0 ? names.get(number) : words[k]) + "(");
        int count = (functions[k] < 0 ? 0 : 1) + random.nextInt(4);
        for (int a = 0; a < count; a++) {
            if (a > 0) {
                both(",");
            }
            // One argument that is left out would be no argument.
            if (count > 1 && random.nextInt(5) == 0) {
                code.add(7);
            } else {
                expression(0, depth - 1);
            }
        }
        both(")");
        if (functions[k] < 0) {
            code.add(11 + 16 * count);
            code.add(number);
        } else {
            code.add(10 + 16 * (count + 64 * number));
        }
    }
}
