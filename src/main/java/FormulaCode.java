/**
 * Formulas as the cells of a workbook have them: read from a text, made into code, printed back from the code.
 *
 * <p>All rows are made by the constructor and used again by every call, so that no call makes an object.
 */
public final class FormulaCode {
    /** Nothing there. */
    public static final int NONE = -1;

    private static final int MOST_BYTES = 1040;
    private static final int MOST_CHARACTERS = 1024;
    private static final int MOST_SHEETS = 8;
    private static final int LONGEST_SHEET = 31;
    private static final int MOST_NAMES = 200;
    private static final int LONGEST_WORD = 40;
    private static final int LONGEST_STRING = 255;
    private static final int MOST_ARGUMENTS = 30;
    private static final int MOST_ELEMENTS = 256;
    private static final int MOST_DIGITS = 15;
    private static final int GREATEST_POWER = 999;
    private static final int DEEPEST = 60;
    private static final int LAST_COLUMN = 16384;
    private static final int LAST_ROW = 1048576;

    // The most that two characters can give: four numbers for a NUMBER of one digit, one for the sign behind it.
    private static final int MOST_NUMBERS = MOST_CHARACTERS / 2 * 5;
    // Of all tokens 1E20 grows most when it is printed: with the sign behind it from 5 characters to 22.
    private static final int MOST_PRINTED = (MOST_CHARACTERS / 5 + 1) * 22;
    // A STRING of nothing but quotes is printed with two for each, and one at both ends.
    private static final int LONGEST_PIECE = 2 * LONGEST_STRING + 2;

    private static final int NUMBER = 0;
    private static final int STRING = 1;
    private static final int LOGICAL = 2;
    private static final int ERROR = 3;
    private static final int PLACE = 4;
    private static final int RANGE = 5;
    private static final int NAME = 6;
    private static final int LEFT_OUT = 7;
    private static final int ARRAY = 8;
    private static final int OPERATION = 9;
    private static final int CALL = 10;
    private static final int OTHER_CALL = 11;

    private static final int POWER_SIGN = 11;
    private static final int PERCENT = 12;
    private static final int MINUS = 13;
    private static final int PLUS = 14;
    private static final int BRACKETS = 15;

    // What X of a RANGE has besides its $ marks.
    private static final int OF_PLACES = 0;
    private static final int OF_COLUMNS = 16;
    private static final int OF_ROWS = 32;

    private static final int ERRORS = 7;
    private static final int CALL_UNIT = 64;
    private static final int HALF_BITS = 30;
    private static final Function[] FUNCTIONS = Function.values();

    private final Row tape;
    private final Row text;
    private final Words sheetList;
    private final Words nameList;
    private final Row quotedSheets;
    private final Row code;
    private final Row draft;
    private final Scanner scanner;
    private final Reader reader;
    private final Printer printer;
    private int illPlace;

    public FormulaCode() {
        tape = new Row(MOST_BYTES);
        text = new Row(MOST_CHARACTERS);
        sheetList = new Words(MOST_SHEETS, LONGEST_SHEET);
        nameList = new Words(MOST_NAMES, LONGEST_WORD);
        quotedSheets = new Row(MOST_SHEETS);
        code = new Row(MOST_NUMBERS);
        draft = new Row(MOST_NUMBERS);
        scanner = new Scanner(text, draft);
        reader = new Reader(text, draft, scanner, sheetList, nameList);
        printer = new Printer(code, sheetList, nameList, quotedSheets);
        illPlace = NONE;
    }

    public boolean feed(int a, int b, int c, int d, int e) {
        if (tape.size() >= MOST_BYTES) {
            return false;
        }
        putBytes(a);
        putBytes(b);
        putBytes(c);
        putBytes(d);
        putBytes(e);
        return true;
    }

    private void putBytes(int four) {
        for (int shift = 24; shift >= 0; shift -= 8) {
            tape.add((four >> shift) & 255);
        }
    }

    public boolean end(int n) {
        if (n < 0 || n > tape.size() || n > MOST_CHARACTERS) {
            return false;
        }
        tape.cut(n);
        text.copy(tape);
        tape.clear();
        return true;
    }

    public int sheet() throws IllegalArgumentException, IllegalStateException {
        int size = text.size();
        if (size < 1 || size > LONGEST_SHEET || !isPlain(text)) {
            throw new IllegalArgumentException("a sheet's name has 1 to 31 characters 32 to 126");
        }
        if (sheetList.count() >= MOST_SHEETS || sheetList.find(text, 0, size) != NONE) {
            throw new IllegalStateException("eight sheets are there, or one has this name");
        }
        quotedSheets.add(scanner.needsQuotes() ? 1 : 0);
        int number = sheetList.add(text, 0, size);
        sheetList.keep();
        return number;
    }

    public int compile() throws IllegalArgumentException, IllegalStateException {
        illPlace = reader.readText();
        if (illPlace != NONE) {
            nameList.forget();
            throw new IllegalArgumentException("the text is ill");
        }
        if (nameList.isOverfull()) {
            nameList.forget();
            throw new IllegalStateException("there would be more than 200 names");
        }
        nameList.keep();
        code.copy(draft);
        return code.size();
    }

    public int illAt() {
        return illPlace;
    }

    public int word(int k) {
        return code.get(k);
    }

    public int names() {
        return nameList.count();
    }

    public int name(int n, int i) {
        return nameList.letter(n, i);
    }

    public int reference(int k, int what) {
        if (k < 0 || what < 0 || what > 4) {
            return NONE;
        }
        int seen = 0;
        for (int i = 0; i < code.size(); i += itemSize(code.get(i))) {
            int kind = kindOf(code.get(i));
            if (kind == PLACE || kind == RANGE) {
                if (seen == k) {
                    return referencePart(kind, i, what);
                }
                seen++;
            }
        }
        return NONE;
    }

    private int referencePart(int kind, int i, int what) {
        boolean isSameCorner = kind == PLACE && what > 2;
        return code.get(i + 1 + (isSameCorner ? what - 2 : what));
    }

    public int print() {
        if (code.size() == 0) {
            return 0;
        }
        printer.run();
        return printer.size();
    }

    public int output(int k) {
        return printer.letter(k);
    }

    public void again() {
        text.clear();
        for (int k = 0; k < printer.size() && k < MOST_CHARACTERS; k++) {
            text.add(printer.letter(k));
        }
    }

    private static boolean isPlain(Row row) {
        for (int k = 0; k < row.size(); k++) {
            if (row.get(k) < 32 || row.get(k) > 126) {
                return false;
            }
        }
        return true;
    }

    private static boolean isDigit(int c) {
        return c >= '0' && c <= '9';
    }

    private static boolean isLetter(int c) {
        return c >= 'A' && c <= 'Z' || c >= 'a' && c <= 'z';
    }

    private static boolean isWordPart(int c) {
        return c >= 'A' && c <= 'Z' || c >= 'a' && c <= 'z' || c >= '0' && c <= '9' || c == '_' || c == '.';
    }

    private static int capital(int c) {
        return c >= 'a' && c <= 'z' ? c - 32 : c;
    }

    /** The place behind the WORD that begins at a place; that place itself if none begins there. */
    private static int wordEnd(Row row, int from) {
        int p = from;
        if (isLetter(row.get(p)) || row.get(p) == '_') {
            while (p < row.size() && isWordPart(row.get(p))) {
                p++;
            }
        }
        return p;
    }

    /** Whether a row has, from a place on, the characters of a text in great letters. */
    private static boolean startsWith(Row row, int from, String great) {
        for (int k = 0; k < great.length(); k++) {
            if (capital(row.get(from + k)) != great.charAt(k)) {
                return false;
            }
        }
        return true;
    }

    private static boolean isSame(Row row, int from, int to, String great) {
        return to - from == great.length() && startsWith(row, from, great);
    }

    private static int functionNumber(Row row, int from, int to) {
        for (int f = 0; f < FUNCTIONS.length; f++) {
            if (isSame(row, from, to, FUNCTIONS[f].great)) {
                return f;
            }
        }
        return NONE;
    }

    private static String errorText(int number) {
        switch (number) {
            case 1: return "#NULL!";
            case 2: return "#DIV/0!";
            case 3: return "#VALUE!";
            case 4: return "#REF!";
            case 5: return "#NAME?";
            case 6: return "#NUM!";
            case 7: return "#N/A";
            default: return "";
        }
    }

    private static String operationText(int operation) {
        switch (operation) {
            case 0: return "=";
            case 1: return "<>";
            case 2: return "<";
            case 3: return "<=";
            case 4: return ">";
            case 5: return ">=";
            case 6: return "&";
            case 7: return "+";
            case 8: return "-";
            case 9: return "*";
            case 10: return "/";
            case 11: return "^";
            case PERCENT: return "%";
            case MINUS: return "-";
            case PLUS: return "+";
            case BRACKETS: return "(";
            default: return "";
        }
    }

    private static int item(int kind, int x) {
        return kind + 16 * x;
    }

    private static int kindOf(int begin) {
        return begin & 15;
    }

    private static int xOf(int begin) {
        return begin >>> 4;
    }

    /** How many numbers the item has that begins with a number; at least 1, so that a walk over the code ends. */
    private static int itemSize(int begin) {
        switch (kindOf(begin)) {
            case NUMBER:
            case PLACE:
                return 4;
            case STRING:
                return 1 + (xOf(begin) + 3) / 4;
            case RANGE:
                return 6;
            case ARRAY:
            case OTHER_CALL:
                return 2;
            default:
                return 1;
        }
    }

    /** The functions in the order of their numbers, each with its least and greatest number of arguments. */
    private enum Function {
        SUM("SUM", 1, 30), PRODUCT("PRODUCT", 1, 30), COUNT("COUNT", 1, 30), COUNTA("COUNTA", 1, 30),
        COUNTBLANK("COUNTBLANK", 1, 1), AVERAGE("AVERAGE", 1, 30), AVERAGEA("AVERAGEA", 1, 30),
        MIN("MIN", 1, 30), MAX("MAX", 1, 30), MINA("MINA", 1, 30), MAXA("MAXA", 1, 30), SUMSQ("SUMSQ", 1, 30),
        SUMPRODUCT("SUMPRODUCT", 1, 30), SUMIF("SUMIF", 2, 3), COUNTIF("COUNTIF", 2, 2),
        AVERAGEIF("AVERAGEIF", 2, 3), SUMIFS("SUMIFS", 3, 29), COUNTIFS("COUNTIFS", 2, 30),
        MEDIAN("MEDIAN", 1, 30), MODE("MODE", 1, 30), LARGE("LARGE", 2, 2), SMALL("SMALL", 2, 2),
        RANK("RANK", 2, 3), VAR("VAR", 1, 30), VARP("VARP", 1, 30), AVEDEV("AVEDEV", 1, 30),
        DEVSQ("DEVSQ", 1, 30), PERCENTILE("PERCENTILE", 2, 2), QUARTILE("QUARTILE", 2, 2), ABS("ABS", 1, 1),
        INT("INT", 1, 1), TRUNC("TRUNC", 1, 2), ROUND("ROUND", 2, 2), ROUNDUP("ROUNDUP", 2, 2),
        ROUNDDOWN("ROUNDDOWN", 2, 2), MROUND("MROUND", 2, 2), CEILING("CEILING", 2, 2), FLOOR("FLOOR", 2, 2),
        EVEN("EVEN", 1, 1), ODD("ODD", 1, 1), SIGN("SIGN", 1, 1), MOD("MOD", 2, 2),
        QUOTIENT("QUOTIENT", 2, 2), POWER("POWER", 2, 2), FACT("FACT", 1, 1), COMBIN("COMBIN", 2, 2),
        PERMUT("PERMUT", 2, 2), GCD("GCD", 1, 30), LCM("LCM", 1, 30), IF("IF", 2, 3), AND("AND", 1, 30),
        OR("OR", 1, 30), XOR("XOR", 1, 30), NOT("NOT", 1, 1), IFERROR("IFERROR", 2, 2), IFNA("IFNA", 2, 2),
        CHOOSE("CHOOSE", 2, 30), PMT("PMT", 3, 5), FV("FV", 3, 5), PV("PV", 3, 5), NPV("NPV", 2, 30),
        SLN("SLN", 3, 3), SYD("SYD", 4, 4), DDB("DDB", 4, 5), N("N", 1, 1), T("T", 1, 1), LEN("LEN", 1, 1),
        LEFT("LEFT", 1, 2), RIGHT("RIGHT", 1, 2), MID("MID", 3, 3), FIND("FIND", 2, 3),
        SEARCH("SEARCH", 2, 3), REPLACE("REPLACE", 4, 4), SUBSTITUTE("SUBSTITUTE", 3, 4), REPT("REPT", 2, 2),
        UPPER("UPPER", 1, 1), LOWER("LOWER", 1, 1), PROPER("PROPER", 1, 1), TRIM("TRIM", 1, 1),
        CONCATENATE("CONCATENATE", 1, 30), TEXTJOIN("TEXTJOIN", 3, 30), EXACT("EXACT", 2, 2),
        CHAR("CHAR", 1, 1), CODE("CODE", 1, 1), VALUE("VALUE", 1, 1), TEXT("TEXT", 2, 2),
        FIXED("FIXED", 1, 3), ROMAN("ROMAN", 1, 1), BASE("BASE", 2, 3), DECIMAL("DECIMAL", 2, 2),
        VLOOKUP("VLOOKUP", 3, 4), HLOOKUP("HLOOKUP", 3, 4), LOOKUP("LOOKUP", 2, 3), MATCH("MATCH", 2, 3),
        INDEX("INDEX", 2, 3), ROW("ROW", 0, 1), COLUMN("COLUMN", 0, 1), ROWS("ROWS", 1, 1),
        COLUMNS("COLUMNS", 1, 1), ADDRESS("ADDRESS", 2, 5), TRANSPOSE("TRANSPOSE", 1, 1), DATE("DATE", 3, 3),
        TIME("TIME", 3, 3), YEAR("YEAR", 1, 1), MONTH("MONTH", 1, 1), DAY("DAY", 1, 1), HOUR("HOUR", 1, 1),
        MINUTE("MINUTE", 1, 1), SECOND("SECOND", 1, 1), WEEKDAY("WEEKDAY", 1, 2), WEEKNUM("WEEKNUM", 1, 2),
        EDATE("EDATE", 2, 2), EOMONTH("EOMONTH", 2, 2), DAYS("DAYS", 2, 2), DATEDIF("DATEDIF", 3, 3),
        NETWORKDAYS("NETWORKDAYS", 2, 3), WORKDAY("WORKDAY", 2, 3), DATEVALUE("DATEVALUE", 1, 1),
        TIMEVALUE("TIMEVALUE", 1, 1), ISBLANK("ISBLANK", 1, 1), ISNUMBER("ISNUMBER", 1, 1),
        ISTEXT("ISTEXT", 1, 1), ISNONTEXT("ISNONTEXT", 1, 1), ISLOGICAL("ISLOGICAL", 1, 1),
        ISERROR("ISERROR", 1, 1), ISERR("ISERR", 1, 1), ISNA("ISNA", 1, 1), ISEVEN("ISEVEN", 1, 1),
        ISODD("ISODD", 1, 1), NA("NA", 0, 0), TYPE("TYPE", 1, 1), ERROR_TYPE("ERROR.TYPE", 1, 1),
        PI("PI", 0, 0);

        private final String great;
        private final int least;
        private final int greatest;

        Function(String great, int least, int greatest) {
            this.great = great;
            this.least = least;
            this.greatest = greatest;
        }

        boolean takes(int count) {
            return count >= least && count <= greatest;
        }
    }

    /** A row of numbers with a bound; what is read outside it is 0, what is put beyond its room is dropped. */
    private static final class Row {
        private final int[] cells;
        private int size;

        Row(int room) {
            cells = new int[room > 0 ? room : 0];
            size = 0;
        }

        int size() {
            return size;
        }

        int get(int k) {
            return k >= 0 && k < size && k < cells.length ? cells[k] : 0;
        }

        int last() {
            int k = size - 1;
            return k >= 0 && k < cells.length ? cells[k] : NONE;
        }

        void add(int value) {
            if (size >= 0 && size < cells.length) {
                cells[size] = value;
                size++;
            }
        }

        void changeLast(int value) {
            int k = size - 1;
            if (k >= 0 && k < cells.length) {
                cells[k] = value;
            }
        }

        void addText(String characters) {
            for (int k = 0; k < characters.length(); k++) {
                add(characters.charAt(k));
            }
        }

        void addDecimal(int value) {
            int unit = 1;
            while (unit <= value / 10 && unit < 1000000000) {
                unit *= 10;
            }
            for (; unit > 0; unit /= 10) {
                add('0' + value / unit % 10);
            }
        }

        void cut(int length) {
            if (length >= 0 && length < size) {
                size = length;
            }
        }

        void dropLast() {
            if (size > 0) {
                size--;
            }
        }

        void clear() {
            size = 0;
        }

        void copy(Row other) {
            size = 0;
            for (int k = 0; k < other.size; k++) {
                add(other.get(k));
            }
        }
    }

    /** Words in the order in which they came; those that came since the latest keep() may be forgotten. */
    private static final class Words {
        private final int most;
        private final Row letters;
        // Word n has the letters from bound n to bound n + 1.
        private final Row bounds;
        private int kept;
        private boolean overfull;

        Words(int most, int longest) {
            this.most = most;
            letters = new Row(most * longest);
            bounds = new Row(most + 1);
            bounds.add(0);
            kept = 0;
            overfull = false;
        }

        int count() {
            return kept;
        }

        boolean isOverfull() {
            return overfull;
        }

        int length(int n) {
            return n >= 0 && n < kept ? bounds.get(n + 1) - bounds.get(n) : 0;
        }

        int letter(int n, int i) {
            if (n < 0 || n >= kept || i < 0) {
                return 0;
            }
            int start = bounds.get(n);
            return i < bounds.get(n + 1) - start ? letters.get(start + i) : 0;
        }

        /** The number of the word that a part of a row is, great or small letters being the same. */
        int find(Row row, int from, int to) {
            int length = to - from;
            for (int n = 0; n < bounds.size() - 1; n++) {
                int start = bounds.get(n);
                int same = bounds.get(n + 1) - start == length ? 0 : NONE;
                while (same >= 0 && same < length
                    && capital(letters.get(start + same)) == capital(row.get(from + same))) {
                    same++;
                }
                if (same == length) {
                    return n;
                }
            }
            return NONE;
        }

        /** Adds a part of a row as a new word; beyond the room it only notes that there are too many. */
        int add(Row row, int from, int to) {
            int number = bounds.size() - 1;
            if (number >= most) {
                overfull = true;
                return 0;
            }
            for (int k = from; k < to; k++) {
                letters.add(row.get(k));
            }
            bounds.add(letters.size());
            return number;
        }

        void keep() {
            kept = bounds.size() - 1;
        }

        void forget() {
            bounds.cut(kept + 1);
            letters.cut(bounds.last());
            overfull = false;
        }
    }

    /** One side of a reference: a column, a row or both, each fixed (1) by a $ or not (0). */
    private static final class Side {
        private int column;
        private int row;
        private int columnFixed;
        private int rowFixed;
        private int end;

        /** Reads the parts that are asked for, at a place of a text; whether they are all there. */
        boolean isAt(Row text, int from, boolean withColumn, boolean withRow) {
            end = from;
            column = 0;
            row = 0;
            columnFixed = withColumn && text.get(end) == '$' ? 1 : 0;
            end += columnFixed;
            for (int k = 0; withColumn && k < 3 && isLetter(text.get(end)); k++) {
                column = column * 26 + capital(text.get(end)) - 'A' + 1;
                end++;
            }
            rowFixed = withRow && text.get(end) == '$' ? 1 : 0;
            end += rowFixed;
            boolean beginsWell = text.get(end) != '0';
            for (int k = 0; withRow && k < 7 && isDigit(text.get(end)); k++) {
                row = row * 10 + text.get(end) - '0';
                end++;
            }
            int behind = text.get(end);
            return (!withColumn || column >= 1 && column <= LAST_COLUMN)
                && (!withRow || beginsWell && row >= 1 && row <= LAST_ROW)
                && !isWordPart(behind) && behind != '(' && behind != '!';
        }
    }

    /** Reads the tokens that are an item by themselves, and writes the item into the code. */
    private static final class Scanner {
        private final Row text;
        private final Row code;
        private final Row unfolded;
        private final Side first;
        private final Side second;
        private int end;
        private int shape;
        private boolean isPair;

        Scanner(Row text, Row code) {
            this.text = text;
            this.code = code;
            unfolded = new Row(LONGEST_STRING);
            first = new Side();
            second = new Side();
            end = 0;
            shape = OF_PLACES;
            isPair = false;
        }

        /** The place behind the token that was read last. */
        int behind() {
            return end;
        }

        /** The characters of the quoted text that was read last. */
        Row unfolded() {
            return unfolded;
        }

        /** Whether a sheet that has the whole text as its name is printed between quotes. */
        boolean needsQuotes() {
            int size = text.size();
            return wordEnd(text, 0) != size || isSame(text, 0, size, "TRUE") || isSame(text, 0, size, "FALSE")
                || first.isAt(text, 0, true, true);
        }

        private int digitsEnd(int from) {
            int p = from;
            while (p < text.size() && isDigit(text.get(p))) {
                p++;
            }
            return p;
        }

        /** Whether a NUMBER stands at a place; minus is 1 for one that has a - before it. */
        boolean readNumber(int from, int minus) {
            int point = digitsEnd(from);
            int last = point;
            if (text.get(point) == '.' && isDigit(text.get(point + 1))) {
                last = digitsEnd(point + 1);
            }
            return last > from && writeNumber(from, point, last, readExponent(last), minus);
        }

        private int readExponent(int from) {
            end = from;
            if (capital(text.get(from)) != 'E') {
                return 0;
            }
            int sign = text.get(from + 1);
            int start = sign == '+' || sign == '-' ? from + 2 : from + 1;
            int value = 0;
            for (int p = start; p < start + 3 && isDigit(text.get(p)); p++) {
                value = value * 10 + text.get(p) - '0';
                end = p + 1;
            }
            return sign == '-' ? -value : value;
        }

        private boolean writeNumber(int from, int point, int last, int exponent, int minus) {
            int head = from;
            while (head < last && (text.get(head) == '0' || text.get(head) == '.')) {
                head++;
            }
            int tail = last - 1;
            while (tail > head && (text.get(tail) == '0' || text.get(tail) == '.')) {
                tail--;
            }
            boolean isZero = head == last;
            int high = powerAt(head, point) + exponent;
            int low = powerAt(tail, point) + exponent;
            if (!isZero && (high - low >= MOST_DIGITS || high < -GREATEST_POWER || high > GREATEST_POWER)) {
                return false;
            }
            long digits = 0;
            for (int p = head; p <= tail; p++) {
                if (p != point) {
                    digits = digits * 10 + text.get(p) - '0';
                }
            }
            code.add(item(NUMBER, minus));
            code.add((int) (digits >> HALF_BITS));
            code.add((int) (digits & ((1L << HALF_BITS) - 1)));
            code.add(isZero ? 0 : low);
            return true;
        }

        /** Which power of ten the digit at a place counts, the point being, or being thought, at another. */
        private static int powerAt(int p, int point) {
            return p < point ? point - 1 - p : point - p;
        }

        /** Whether characters stand between quotes at a place, a doubled quote being one of them. */
        boolean readQuoted(int from) {
            int quote = text.get(from);
            unfolded.clear();
            int count = 0;
            for (int p = from + 1; p < text.size(); p++) {
                int c = text.get(p);
                if (c == quote) {
                    p++;
                    if (text.get(p) != quote) {
                        end = p;
                        return count <= LONGEST_STRING;
                    }
                }
                if (c < 32 || c > 126) {
                    return false;
                }
                unfolded.add(c);
                count++;
            }
            return false;
        }

        boolean readString(int from) {
            if (!readQuoted(from)) {
                return false;
            }
            code.add(item(STRING, unfolded.size()));
            for (int k = 0; k < unfolded.size(); k += 4) {
                int four = unfolded.get(k) << 24 | unfolded.get(k + 1) << 16 | unfolded.get(k + 2) << 8;
                code.add(four | unfolded.get(k + 3));
            }
            return true;
        }

        boolean readError(int from) {
            for (int number = 1; number <= ERRORS; number++) {
                if (startsWith(text, from, errorText(number))) {
                    code.add(item(ERROR, number));
                    end = from + errorText(number).length();
                    return true;
                }
            }
            return false;
        }

        /** Whether the WORD between two places is TRUE or FALSE. */
        boolean readLogical(int from, int to) {
            boolean isTrue = isSame(text, from, to, "TRUE");
            if (!isTrue && !isSame(text, from, to, "FALSE")) {
                return false;
            }
            code.add(item(LOGICAL, isTrue ? 1 : 0));
            end = to;
            return true;
        }

        /** Whether a PLACE or RANGE stands at a place; it isn't written yet. */
        boolean findReference(int from) {
            for (int tried = OF_PLACES; tried <= OF_ROWS; tried += 16) {
                boolean withColumn = tried != OF_ROWS;
                boolean withRow = tried != OF_COLUMNS;
                if (first.isAt(text, from, withColumn, withRow)) {
                    int behind = first.end;
                    isPair = text.get(behind) == ':' && second.isAt(text, behind + 1, withColumn, withRow);
                    if (isPair || tried == OF_PLACES) {
                        shape = tried;
                        end = isPair ? second.end : behind;
                        return true;
                    }
                }
            }
            return false;
        }

        /** Writes the PLACE or RANGE that was found last. */
        void writeReference(int sheet) {
            if (isPair) {
                writeRange(sheet);
                return;
            }
            code.add(item(PLACE, first.columnFixed + 2 * first.rowFixed));
            code.add(sheet);
            code.add(first.row);
            code.add(first.column);
        }

        private void writeRange(int sheet) {
            if (shape == OF_COLUMNS) {
                first.row = 1;
                second.row = LAST_ROW;
            }
            if (shape == OF_ROWS) {
                first.column = 1;
                second.column = LAST_COLUMN;
            }
            boolean isTurned = second.column < first.column;
            boolean isUpturned = second.row < first.row;
            Side left = isTurned ? second : first;
            Side right = isTurned ? first : second;
            Side upper = isUpturned ? second : first;
            Side lower = isUpturned ? first : second;
            int fixed = left.columnFixed + 2 * upper.rowFixed + 4 * right.columnFixed + 8 * lower.rowFixed;
            code.add(item(RANGE, shape + fixed));
            code.add(sheet);
            code.add(upper.row);
            code.add(left.column);
            code.add(lower.row);
            code.add(right.column);
        }
    }

    /**
     * Reads a formula and writes its code. What is begun and not ended waits on stacks, not in calls of methods:
     * sixty brackets in one another, each through all levels of operators, would be too many calls.
     */
    private static final class Reader {
        private static final int BRACKET = -1;
        // A callee from this number on is another WORD: the rest is its number among the names.
        private static final int OTHER = 1000;

        private static final int OPERAND = 0;
        private static final int OPERATOR = 1;
        private static final int ELEMENT = 2;
        private static final int SEPARATOR = 3;
        private static final int NOTHING = 4;

        private final Row text;
        private final Row code;
        private final Scanner scanner;
        private final Words sheetList;
        private final Words nameList;
        // Operations that wait for what stands behind them; BRACKETS where a bracket or call was opened.
        private final Row waiting;
        // What was opened and isn't closed: BRACKET or a callee, and how many arguments it has had.
        private final Row callees;
        private final Row counts;
        private int at;
        private int ill;
        private int due;
        private int elements;
        private int inRow;
        private int rows;
        private int columns;

        Reader(Row text, Row code, Scanner scanner, Words sheetList, Words nameList) {
            this.text = text;
            this.code = code;
            this.scanner = scanner;
            this.sheetList = sheetList;
            this.nameList = nameList;
            waiting = new Row(MOST_CHARACTERS);
            callees = new Row(DEEPEST);
            counts = new Row(DEEPEST);
        }

        /** Writes the code of the text; answers where the text is ill, or NONE. */
        int readText() {
            code.clear();
            waiting.clear();
            callees.clear();
            counts.clear();
            ill = NONE;
            if (text.get(0) != '=') {
                return 0;
            }
            at = 1;
            due = OPERAND;
            // Every step but the last one passes a character.
            for (int step = 0; step <= text.size() && ill == NONE && due != NOTHING; step++) {
                skipBlanks();
                switch (due) {
                    case OPERAND:
                        readOperand();
                        break;
                    case OPERATOR:
                        readOperator();
                        break;
                    case ELEMENT:
                        readElement();
                        break;
                    default:
                        readSeparator();
                        break;
                }
            }
            return ill;
        }

        private void skipBlanks() {
            while (at < text.size() && text.get(at) == ' ') {
                at++;
            }
        }

        private void readOperand() {
            int c = text.get(at);
            if (c == '+' || c == '-') {
                waiting.add(c == '-' ? MINUS : PLUS);
                at++;
            } else if (c == '(') {
                open(BRACKET, at + 1);
            } else if (c == ',' || c == ')') {
                leaveOut(c);
            } else if (c == '{') {
                openArray();
            } else if (c == '"') {
                endItem(scanner.readString(at));
            } else if (c == '#') {
                endItem(scanner.readError(at));
            } else if (c == '\'') {
                readQuotedSheet();
            } else if (isLetter(c) || c == '_') {
                readWord();
            } else if (scanner.findReference(at)) {
                scanner.writeReference(NONE);
                endItem(true);
            } else {
                endItem(scanner.readNumber(at, 0));
            }
        }

        /** Goes on behind an item that the scanner has written, if it has: it is an atom. */
        private void endItem(boolean isWritten) {
            if (isWritten) {
                at = scanner.behind();
                endAtom();
            } else {
                ill = at;
            }
        }

        /** Writes the signs that stood before an atom: they bind closer than all that may follow it. */
        private void endAtom() {
            for (int k = waiting.size(); k > 0 && (waiting.last() == MINUS || waiting.last() == PLUS); k--) {
                code.add(item(OPERATION, waiting.last()));
                waiting.dropLast();
            }
            due = OPERATOR;
        }

        private void readQuotedSheet() {
            if (!scanner.readQuoted(at) || text.get(scanner.behind()) != '!') {
                ill = at;
                return;
            }
            Row unfolded = scanner.unfolded();
            readSheetReference(sheetList.find(unfolded, 0, unfolded.size()), scanner.behind() + 1);
        }

        private void readSheetReference(int sheet, int from) {
            if (sheet == NONE) {
                ill = at;
            } else if (scanner.findReference(from)) {
                scanner.writeReference(sheet);
                endItem(true);
            } else {
                ill = from;
            }
        }

        private void readWord() {
            int to = wordEnd(text, at);
            int behind = text.get(to);
            if (scanner.findReference(at)) {
                scanner.writeReference(NONE);
                endItem(true);
            } else if (to - at > LONGEST_WORD) {
                ill = at;
            } else if (behind == '!') {
                readSheetReference(sheetList.find(text, at, to), to + 1);
            } else if (behind == '(') {
                int function = functionNumber(text, at, to);
                open(function != NONE ? function : OTHER + nameNumber(to), to + 1);
            } else if (scanner.readLogical(at, to)) {
                endItem(true);
            } else {
                code.add(item(NAME, nameNumber(to)));
                at = to;
                endAtom();
            }
        }

        private int nameNumber(int to) {
            int number = nameList.find(text, at, to);
            return number != NONE ? number : nameList.add(text, at, to);
        }

        private void open(int callee, int behind) {
            if (callees.size() >= DEEPEST) {
                ill = at;
                return;
            }
            waiting.add(BRACKETS);
            callees.add(callee);
            counts.add(0);
            at = behind;
        }

        private boolean isInCall() {
            return callees.size() > 0 && callees.last() != BRACKET;
        }

        /** A , or ) where an operand is due: an argument is left out there, or a call has none. */
        private void leaveOut(int c) {
            if (!isInCall() || waiting.last() != BRACKETS) {
                ill = at;
                return;
            }
            boolean isEmpty = c == ')' && counts.last() == 0;
            if (!isEmpty) {
                code.add(item(LEFT_OUT, 0));
            }
            if (c == ',') {
                passComma();
            } else {
                closeCall(isEmpty ? 0 : counts.last() + 1);
            }
        }

        private void passComma() {
            int count = counts.last() + 1;
            if (count >= MOST_ARGUMENTS) {
                ill = at;
                return;
            }
            counts.changeLast(count);
            at++;
            due = OPERAND;
        }

        private void closeCall(int count) {
            int callee = callees.last();
            if (callee >= OTHER) {
                code.add(item(OTHER_CALL, count));
                code.add(callee - OTHER);
            } else if (callee >= 0 && callee < FUNCTIONS.length && FUNCTIONS[callee].takes(count)) {
                code.add(item(CALL, count + CALL_UNIT * callee));
            } else {
                ill = at;
                return;
            }
            leave();
        }

        private void leave() {
            waiting.dropLast();
            callees.dropLast();
            counts.dropLast();
            at++;
            endAtom();
        }

        private void readOperator() {
            int c = text.get(at);
            if (at >= text.size()) {
                endText();
            } else if (c == '%') {
                code.add(item(OPERATION, PERCENT));
                at++;
            } else if (c == ')') {
                closeBracket();
            } else if (c == ',' && isInCall()) {
                writeWaiting(1);
                passComma();
            } else {
                joinOperands(operationAt(c, text.get(at + 1)));
            }
        }

        private void endText() {
            if (callees.size() > 0) {
                ill = at;
                return;
            }
            writeWaiting(1);
            due = NOTHING;
        }

        private void closeBracket() {
            if (callees.size() == 0) {
                ill = at;
                return;
            }
            writeWaiting(1);
            if (isInCall()) {
                closeCall(counts.last() + 1);
            } else {
                code.add(item(OPERATION, BRACKETS));
                leave();
            }
        }

        private void joinOperands(int operation) {
            if (operation == NONE) {
                ill = at;
                return;
            }
            writeWaiting(tightness(operation));
            waiting.add(operation);
            at += operationText(operation).length();
            due = OPERAND;
        }

        /** Writes the operations that wait and bind at least as tightly, the latest first. */
        private void writeWaiting(int least) {
            for (int k = waiting.size(); k > 0 && tightness(waiting.last()) >= least; k--) {
                code.add(item(OPERATION, waiting.last()));
                waiting.dropLast();
            }
        }

        private static int operationAt(int c, int behind) {
            switch (c) {
                case '=': return 0;
                case '<': return behind == '>' ? 1 : behind == '=' ? 3 : 2;
                case '>': return behind == '=' ? 5 : 4;
                case '&': return 6;
                case '+': return 7;
                case '-': return 8;
                case '*': return 9;
                case '/': return 10;
                case '^': return POWER_SIGN;
                default: return NONE;
            }
        }

        /** How tightly an operation between two operands binds; 0 for the others. */
        private static int tightness(int operation) {
            if (operation < 0 || operation > POWER_SIGN) {
                return 0;
            }
            return operation <= 5 ? 1 : operation == 6 ? 2 : operation <= 8 ? 3 : operation <= 10 ? 4 : 5;
        }

        private void openArray() {
            if (callees.size() >= DEEPEST) {
                ill = at;
                return;
            }
            elements = 0;
            inRow = 0;
            rows = 1;
            columns = NONE;
            at++;
            due = ELEMENT;
        }

        private void readElement() {
            int minus = text.get(at) == '-' ? 1 : 0;
            at += minus;
            skipBlanks();
            if (!isElement(text.get(at), minus)) {
                ill = at;
                return;
            }
            at = scanner.behind();
            elements++;
            inRow++;
            due = SEPARATOR;
        }

        private boolean isElement(int c, int minus) {
            if (isDigit(c) || c == '.') {
                // Two rows with a : between them are a reference, which isn't an element.
                return !scanner.findReference(at) && scanner.readNumber(at, minus);
            }
            if (minus == 1) {
                return false;
            }
            if (c == '"') {
                return scanner.readString(at);
            }
            if (c == '#') {
                return scanner.readError(at);
            }
            int to = wordEnd(text, at);
            int behind = text.get(to);
            return behind != '(' && behind != '!' && scanner.readLogical(at, to);
        }

        private void readSeparator() {
            int c = text.get(at);
            boolean isRowWhole = columns == NONE || inRow == columns;
            boolean mayGoOn = elements < MOST_ELEMENTS;
            if (c == ',' && mayGoOn && (columns == NONE || inRow < columns)) {
                due = ELEMENT;
                at++;
            } else if (c == ';' && mayGoOn && isRowWhole) {
                columns = inRow;
                inRow = 0;
                rows++;
                due = ELEMENT;
                at++;
            } else if (c == '}' && isRowWhole) {
                code.add(item(ARRAY, rows));
                code.add(inRow);
                at++;
                endAtom();
            } else {
                ill = at;
            }
        }
    }

    /**
     * Prints a code. An operation stands behind what it works on, so the code is walked from its last item to its
     * first one, and the output grows to the front.
     */
    private static final class Printer {
        private final Row code;
        private final Words sheetList;
        private final Words nameList;
        private final Row quotedSheets;
        private final Row begins;
        // Items whose operands aren't all printed yet, and how many of these are left.
        private final Row open;
        private final Row left;
        private final Row piece;
        private final Row digits;
        private final int[] out;
        private int front;

        Printer(Row code, Words sheetList, Words nameList, Row quotedSheets) {
            this.code = code;
            this.sheetList = sheetList;
            this.nameList = nameList;
            this.quotedSheets = quotedSheets;
            begins = new Row(MOST_CHARACTERS);
            open = new Row(MOST_CHARACTERS);
            left = new Row(MOST_CHARACTERS);
            piece = new Row(LONGEST_PIECE);
            digits = new Row(MOST_DIGITS);
            out = new int[MOST_PRINTED];
            front = MOST_PRINTED;
        }

        int size() {
            return out.length - front;
        }

        int letter(int k) {
            if (k < 0 || k >= size()) {
                return 0;
            }
            int place = front + k;
            return place >= 0 && place < out.length ? out[place] : 0;
        }

        void run() {
            front = out.length;
            open.clear();
            left.clear();
            begins.clear();
            for (int i = 0; i < code.size(); i += itemSize(code.get(i))) {
                begins.add(i);
            }
            for (int k = begins.size() - 1; k >= 0; k--) {
                int i = begins.get(k);
                writeClosing(i);
                putPiece();
                int operands = operandsOf(i);
                if (operands > 0) {
                    open.add(i);
                    left.add(operands);
                } else {
                    writeOpening(i);
                    putPiece();
                    endOperand();
                }
            }
            piece.add('=');
            putPiece();
        }

        private void putPiece() {
            for (int k = piece.size() - 1; k >= 0; k--) {
                int place = front - 1;
                if (place >= 0 && place < out.length) {
                    out[place] = piece.get(k);
                    front = place;
                }
            }
            piece.clear();
        }

        /** An operand is printed: the sign before it follows, or the beginning of the item that it was first of. */
        private void endOperand() {
            for (int k = open.size(); k > 0; k--) {
                int rest = left.last() - 1;
                int i = open.last();
                if (rest > 0) {
                    left.changeLast(rest);
                    writeBetween(i, rest);
                    putPiece();
                    return;
                }
                open.dropLast();
                left.dropLast();
                writeOpening(i);
                putPiece();
            }
        }

        private int operandsOf(int i) {
            int x = xOf(code.get(i));
            switch (kindOf(code.get(i))) {
                case ARRAY: return x * code.get(i + 1);
                case OPERATION: return x <= POWER_SIGN ? 2 : 1;
                case CALL: return x % CALL_UNIT;
                case OTHER_CALL: return x;
                default: return 0;
            }
        }

        private void writeClosing(int i) {
            int x = xOf(code.get(i));
            switch (kindOf(code.get(i))) {
                case ARRAY:
                    piece.add('}');
                    break;
                case CALL:
                case OTHER_CALL:
                    piece.add(')');
                    break;
                case OPERATION:
                    piece.addText(x == BRACKETS ? ")" : x == PERCENT ? "%" : "");
                    break;
                default:
                    break;
            }
        }

        /** Writes what stands between two operands of an item, the second of which has so many before it. */
        private void writeBetween(int i, int before) {
            int begin = code.get(i);
            if (kindOf(begin) == OPERATION) {
                piece.addText(operationText(xOf(begin)));
                return;
            }
            int columns = kindOf(begin) == ARRAY ? code.get(i + 1) : 0;
            piece.add(columns > 0 && before % columns == 0 ? ';' : ',');
        }

        /** Writes what stands before the operands of an item; if it has none, but for brackets, all of it. */
        private void writeOpening(int i) {
            int x = xOf(code.get(i));
            switch (kindOf(code.get(i))) {
                case NUMBER:
                    writeNumber(i, x);
                    break;
                case STRING:
                    writeString(i, x);
                    break;
                case LOGICAL:
                    piece.addText(x == 1 ? "TRUE" : "FALSE");
                    break;
                case ERROR:
                    piece.addText(errorText(x));
                    break;
                case PLACE:
                    writeSheet(code.get(i + 1));
                    writeColumn(x & 1, code.get(i + 3));
                    writeRow(x & 2, code.get(i + 2));
                    break;
                case RANGE:
                    writeRange(i, x);
                    break;
                case NAME:
                    writeName(x);
                    break;
                case ARRAY:
                    piece.add('{');
                    break;
                case OPERATION:
                    piece.addText(x == MINUS || x == PLUS || x == BRACKETS ? operationText(x) : "");
                    break;
                case CALL:
                    writeFunction(x / CALL_UNIT);
                    break;
                case OTHER_CALL:
                    writeName(code.get(i + 1));
                    piece.add('(');
                    break;
                default:
                    break;
            }
        }

        private void writeFunction(int number) {
            if (number >= 0 && number < FUNCTIONS.length) {
                piece.addText(FUNCTIONS[number].great);
            }
            piece.add('(');
        }

        private void writeName(int n) {
            for (int i = 0; i < nameList.length(n); i++) {
                piece.add(nameList.letter(n, i));
            }
        }

        private void writeString(int i, int length) {
            piece.add('"');
            for (int k = 0; k < length; k++) {
                int c = (code.get(i + 1 + k / 4) >> (24 - k % 4 * 8)) & 255;
                piece.add(c);
                if (c == '"') {
                    piece.add(c);
                }
            }
            piece.add('"');
        }

        private void writeSheet(int n) {
            if (n == NONE) {
                return;
            }
            boolean isQuoted = quotedSheets.get(n) == 1;
            piece.addText(isQuoted ? "'" : "");
            for (int i = 0; i < sheetList.length(n); i++) {
                int c = sheetList.letter(n, i);
                piece.add(c);
                if (c == '\'') {
                    piece.add(c);
                }
            }
            piece.addText(isQuoted ? "'!" : "!");
        }

        private void writeColumn(int fixed, int column) {
            piece.addText(fixed != 0 ? "$" : "");
            int behindA = column - 1;
            // AA comes behind 26 columns of one letter, AAA behind 26 * 26 of two more.
            if (behindA >= 702) {
                piece.add('A' + (behindA - 702) / 676);
            }
            if (behindA >= 26) {
                piece.add('A' + (behindA - 26) / 26 % 26);
            }
            piece.add('A' + behindA % 26);
        }

        private void writeRow(int fixed, int row) {
            piece.addText(fixed != 0 ? "$" : "");
            piece.addDecimal(row);
        }

        private void writeRange(int i, int x) {
            writeSheet(code.get(i + 1));
            if ((x & OF_ROWS) == 0) {
                writeColumn(x & 1, code.get(i + 3));
            }
            if ((x & OF_COLUMNS) == 0) {
                writeRow(x & 2, code.get(i + 2));
            }
            piece.add(':');
            if ((x & OF_ROWS) == 0) {
                writeColumn(x & 4, code.get(i + 5));
            }
            if ((x & OF_COLUMNS) == 0) {
                writeRow(x & 8, code.get(i + 4));
            }
        }

        private void writeNumber(int i, int minus) {
            takeDigits(((long) code.get(i + 1) << HALF_BITS) + code.get(i + 2));
            int high = code.get(i + 3) + digits.size() - 1;
            piece.addText(minus == 1 ? "-" : "");
            if (high < -5 || high > 20) {
                writeWithExponent(high);
            } else if (high < 0) {
                piece.addText("0.");
                for (int k = -1; k > high; k--) {
                    piece.add('0');
                }
                writeDigits(0);
            } else {
                writeWithPoint(high);
            }
        }

        /** Takes the digits of a number apart, the last one first. */
        private void takeDigits(long number) {
            digits.clear();
            long rest = number;
            for (int k = 0; k < MOST_DIGITS && (k == 0 || rest > 0); k++) {
                digits.add('0' + (int) (rest % 10));
                rest /= 10;
            }
        }

        private void writeDigits(int from) {
            for (int k = digits.size() - 1 - from; k >= 0; k--) {
                piece.add(digits.get(k));
            }
        }

        private void writeWithPoint(int high) {
            for (int k = 0; k < digits.size() || k <= high; k++) {
                if (k == high + 1) {
                    piece.add('.');
                }
                piece.add(k < digits.size() ? digits.get(digits.size() - 1 - k) : '0');
            }
        }

        private void writeWithExponent(int high) {
            piece.add(digits.last());
            if (digits.size() > 1) {
                piece.add('.');
                writeDigits(1);
            }
            int size = high < 0 ? -high : high;
            piece.addText(high < 0 ? "E-" : "E+");
            piece.addText(size < 10 ? "0" : "");
            piece.addDecimal(size);
        }
    }
}
