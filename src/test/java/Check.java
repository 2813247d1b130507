/** What the tests share: an object that takes texts, and answers that are compared with those that are due. */
final class Check {
    private static final int PART = 400;

    private static int wrong = 0;

    private Check() {
    }

    static void same(String what, Object got, Object due) {
        if (!due.equals(got)) {
            wrong++;
            System.out.println(shortened(what) + " answered " + shortened(got) + ", due is " + shortened(due));
        }
    }

    private static String shortened(Object any) {
        String text = String.valueOf(any);
        int length = text.length();
        return length <= 300 ? text : text.substring(0, 200) + " .. " + text.substring(length - 80);
    }

    static void finish() {
        System.exit(wrong == 0 ? 0 : 1);
    }

    static boolean feed(FormulaCode x, String bytes) {
        boolean fed = true;
        for (int from = 0; from < bytes.length(); from += 20) {
            int[] v = new int[5];
            for (int k = from; k < from + 20 && k < bytes.length(); k++) {
                v[(k - from) / 4] |= (bytes.charAt(k) & 255) << (24 - (k - from) % 4 * 8);
            }
            fed &= x.feed(v[0], v[1], v[2], v[3], v[4]);
        }
        return fed;
    }

    static void text(FormulaCode x, String text) {
        same("feed and end of " + text, feed(x, text) && x.end(text.length()), true);
    }

    /** The number of the sheet, or the name of the exception. */
    static String sheet(FormulaCode x, String name) {
        text(x, name);
        return sheetOfText(x);
    }

    static String sheetOfText(FormulaCode x) {
        try {
            return String.valueOf(x.sheet());
        } catch (IllegalArgumentException e) {
            return "IllegalArgumentException";
        } catch (IllegalStateException e) {
            return "IllegalStateException";
        }
    }

    /** How many numbers the code of the text has that is there, or the name of the exception. */
    static String compile(FormulaCode x) {
        try {
            return String.valueOf(x.compile());
        } catch (IllegalArgumentException e) {
            return "IllegalArgumentException";
        } catch (IllegalStateException e) {
            return "IllegalStateException";
        }
    }

    /** The code of a text, its numbers with blanks between; or the name of the exception. */
    static String code(FormulaCode x, String formula) {
        text(x, formula);
        String answer = compile(x);
        return answer.startsWith("Illegal") ? answer : code(x, Integer.parseInt(answer));
    }

    static String code(FormulaCode x, int count) {
        StringBuilder numbers = new StringBuilder();
        for (int k = 0; k < count; k++) {
            numbers.append(k == 0 ? "" : " ").append(x.word(k));
        }
        return numbers.toString();
    }

    /** A new object with sheets. */
    static FormulaCode fresh(String... sheets) {
        FormulaCode x = new FormulaCode();
        for (int k = 0; k < sheets.length; k++) {
            same("sheet " + sheets[k], sheet(x, sheets[k]), String.valueOf(k));
        }
        return x;
    }

    /** A formula's code, or the exception's name. No object has more calls than the 512 that are promised. */
    static String codeInParts(String formula, String... sheets) {
        StringBuilder numbers = new StringBuilder();
        int count = 1;
        for (int from = 0; from < count; from += PART) {
            FormulaCode x = fresh(sheets);
            text(x, formula);
            String answer = compile(x);
            if (answer.startsWith("Illegal")) {
                return answer;
            }
            count = Integer.parseInt(answer);
            for (int k = from; k < from + PART && k < count; k++) {
                numbers.append(k == 0 ? "" : " ").append(x.word(k));
            }
            same("the number behind the last of " + formula, x.word(count), 0);
            same("illAt of " + formula, x.illAt(), FormulaCode.NONE);
        }
        return numbers.toString();
    }

    /** A formula's print. No object has more calls than the 512 that are promised. */
    static String printInParts(String formula, String... sheets) {
        StringBuilder characters = new StringBuilder();
        int count = 1;
        for (int from = 0; from < count; from += PART) {
            FormulaCode x = fresh(sheets);
            text(x, formula);
            compile(x);
            count = x.print();
            for (int k = from; k < from + PART && k < count; k++) {
                characters.append((char) x.output(k));
            }
            same("the character behind the last of " + formula, x.output(count), 0);
        }
        return characters.toString();
    }

    static String printed(FormulaCode x) {
        int count = x.print();
        StringBuilder characters = new StringBuilder();
        for (int k = 0; k < count; k++) {
            characters.append((char) x.output(k));
        }
        same("output behind the last of " + characters, x.output(count), 0);
        return characters.toString();
    }

    static String name(FormulaCode x, int n) {
        StringBuilder characters = new StringBuilder();
        for (int i = 0; x.name(n, i) != 0; i++) {
            characters.append((char) x.name(n, i));
        }
        return characters.toString();
    }
}
