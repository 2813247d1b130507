/** "Terms": the edges of PLACES, COLUMNS, ROWS, RANGES and SHEETS, and which $ counts what. */
public final class ReferenceEdgesTest {
    // A PLACE, COLUMN or ROW that has one of these behind it is none.
    private static final String[] NOT_BEHIND = {"a", "Z", "_", ".", "(", "!"};
    private static final String[] MAY_BE_BEHIND = {"$", ":", "{", "\"", "'", "#", "?", "@", "[", ";", "\\", "\u0000"};

    public static void main(String[] args) {
        columnsOfPlaces();
        rowsOfPlaces();
        dollarsOfPlaces();
        behindPlaces();
        columnsAlone();
        rowsAlone();
        sidesOfRanges();
        orderOfSides();
        sheets();
        behindSheets();
        Check.finish();
    }

    private static void columnsOfPlaces() {
        Edge.of("one to three letters, a column A .. XFD (1 .. 16384)")
            .good("=A1", Edge.place(1, 1)).good("=Z1", Edge.place(1, 26)).good("=AA1", Edge.place(1, 27))
            .good("=AZ1", Edge.place(1, 52)).good("=BA1", Edge.place(1, 53)).good("=ZZ1", Edge.place(1, 702))
            .good("=AAA1", Edge.place(1, 703)).good("=aaa1", Edge.place(1, 703)).good("=XEZ1", Edge.place(1, 16380))
            .good("=xFd1", Edge.place(1, 16384)).good("=XFE1", "6").good("=XGA1", "6").good("=YAA1", "6")
            .good("=ZZZ1", "6").good("=AAAA1", "6").good("=_1", "6").ill("=1|A", "=|$1", "=1|$A");
        Edge.of("the same with $")
            .good("=$XFD1", "20 -1 1 16384").ill("=|$XFE1", "=|$ZZZ1", "=|$AAAA1", "=|$_1");
    }

    private static void rowsOfPlaces() {
        Edge.of("one to seven digits, the first not 0: a row 1 .. 1048576")
            .good("=A1", Edge.place(1, 1)).good("=A9", Edge.place(9, 1)).good("=A10", Edge.place(10, 1))
            .good("=A999999", Edge.place(999999, 1)).good("=A1000000", Edge.place(1000000, 1))
            .good("=A1048576", Edge.place(1048576, 1)).good("=A1048577", "6").good("=A9999999", "6")
            .good("=A0", "6").good("=A01", "6").good("=A0000001", "6").good("=A10485760", "6").good("=A00000001", "6")
            .good("=XFD1048576", Edge.place(1048576, 16384)).good("=XFD1048577", "6").good("=XFE1048576", "6");
        Edge.of("the same with $")
            .good("=A$1048576", "36 -1 1048576 1").ill("=A|$1048577", "=A|$9999999", "=A|$10485760")
            .good("=A$1", "36 -1 1 1").ill("=A|$0", "=A|$01", "=A|$", "=A|$$1", "=A|$B1", "=|$A0", "=|$A01")
            .good("=$A1048576", "20 -1 1048576 1").ill("=|$A1048577", "=|$A10485760", "=|$A$1048577", "=|$A$0");
    }

    private static void dollarsOfPlaces() {
        Edge.of("X 1: $ before the column, 2: before the row, 3 both")
            .good("=B3", "4 -1 3 2").good("=$B3", "20 -1 3 2").good("=B$3", "36 -1 3 2").good("=$B$3", "52 -1 3 2")
            .ill("=|$$B3", "=|$B$$3", "=B3|$", "=|$", "=|$B", "=|$B$", "=|$3", "=B|$");
    }

    private static void behindPlaces() {
        Edge place = Edge.of("no letter, digit, _ , point, ( or ! behind it");
        for (String behind : NOT_BEHIND) {
            place.ill("=|$A1" + behind, "=A|$1" + behind.replace("!", "!B1"), "=A1|:B2" + behind, "=A1|:$B$2" + behind);
        }
        place.good("=A1a", "6").good("=A1_", "6").good("=A1.", "6").good("=A1()", "11 0").ill("=|A1!A1", "=|A1!")
            .ill("=|$A10485761", "=A1|:B10485761").good("=A10485761", "6");
        for (String behind : MAY_BE_BEHIND) {
            place.ill("=A1|" + behind, "=$A$1|" + behind, "=A1:B2|" + behind);
        }
        place.good("=A1 ", Edge.place(1, 1)).good("=A1%", "4 -1 1 1 201").good("=(A1)", "4 -1 1 1 249")
            .good("=A1=A1", "4 -1 1 1 4 -1 1 1 9").good("=A1-1", "4 -1 1 1 0 0 1 0 137");
    }

    private static void columnsAlone() {
        Edge column = Edge.of("a COLUMN alone, with or without $, only at both sides of :");
        column.good("=A:A", Edge.range(16, 1, 1, 1048576, 1)).good("=A:XFD", Edge.range(16, 1, 1, 1048576, 16384))
            .good("=xfd:$xfd", Edge.range(20, 1, 16384, 1048576, 16384))
            .good("=ZZ:AAA", Edge.range(16, 1, 702, 1048576, 703))
            .ill("=A|:XFE", "=XFE|:A", "=A|:AAAA", "=AAAA|:A", "=A|:ZZZ", "=|$XFE:A", "=|$A:XFE", "=A|:$XFE")
            .ill("=|$AAAA:A")
            .good("=A", "6").good("=XFD", "6").ill("=|$A", "=|$A:", "=A|:", "=A|:+", "=|$A+1", "=|$A:$", "=A|:$");
        for (String behind : NOT_BEHIND) {
            column.ill("=A|:XFD" + behind, "=|$A:$XFD" + behind, "=A|:$XFD" + behind);
        }
        column.ill("=A|:B1", "=|$A:B1", "=A|:XFD9");
        for (String behind : MAY_BE_BEHIND) {
            column.ill("=A:B|" + behind, "=$A:$B|" + behind);
        }
        column.ill("=A:B|$1", "=A:B|:C");
    }

    private static void rowsAlone() {
        Edge row = Edge.of("a ROW alone, with or without $, only at both sides of :");
        row.good("=1:1", Edge.range(32, 1, 1, 1, 16384)).good("=1:1048576", Edge.range(32, 1, 1, 1048576, 16384))
            .good("=1048576:$1048576", Edge.range(40, 1048576, 1, 1048576, 16384))
            .ill("=1|:1048577", "=1048577|:1", "=1|:9999999", "=1|:10485760", "=10485760|:1", "=|$1048577:1")
            .ill("=1|:0", "=0|:1", "=1|:01", "=01|:1", "=|$0:1", "=|$1:0", "=|$1:$01", "=1|:$1048577")
            .good("=1", "0 0 1 0").ill("=|$1", "=|$1:", "=1|:", "=1|:$", "=1|:+1", "=|$1+1");
        for (String behind : NOT_BEHIND) {
            row.ill("=1|:2" + behind, "=|$1:$2" + behind, "=1|:$2" + behind);
        }
        row.ill("=1|:2.5", "=1|:2E3", "=1.5|:2", "=1E5|:2", "=.5|:2", "=1|:10485761");
        for (String behind : MAY_BE_BEHIND) {
            row.ill("=1:2|" + behind, "=$1:$2|" + behind);
        }
        row.ill("={|1:2}", "={-|1:2}", "={|$1:$2}", "={1|:}", "={1|:0}");
    }

    private static void sidesOfRanges() {
        Edge.of("PLACE:PLACE, COLUMN:COLUMN or ROW:ROW")
            .good("=A1:B2", Edge.range(0, 1, 1, 2, 2)).good("=A1:XFD1048576", Edge.range(0, 1, 1, 1048576, 16384))
            .ill("=A1|:B", "=A1|:2", "=A|:B2", "=A|:2", "=1|:B2", "=1|:B", "=A1|:b.c", "=a.b|:A1", "=TRUE|:A1")
            .ill("=A1|:TRUE")
            .ill("=A1|:XFE1", "=A1|:A1048577", "=A1|:A0", "=XFE1|:A1", "=A1|:$XFE1", "=A1|:A$0", "=A1|:\"A1\"", "=A1|:")
            .ill("=A1:B2|:C3", "=A1|::B2", "=(A1)|:B2", "=A1|:(B2)", "=A1|:-B2", "=A1|:#REF!", "=#REF!|:A1")
            .ill("=A1|:f()");
        Edge.of("without blanks").ill("=A1 |:B2", "=A1|: B2", "=A |:B", "=A|: B", "=1 |:2", "=1|: 2");
    }

    private static void orderOfSides() {
        Edge.of("whichever were first; $ as it was before that row or column")
            .good("=$A1:B2", Edge.range(1, 1, 1, 2, 2)).good("=A$1:B2", Edge.range(2, 1, 1, 2, 2))
            .good("=A1:$B2", Edge.range(4, 1, 1, 2, 2)).good("=A1:B$2", Edge.range(8, 1, 1, 2, 2))
            .good("=$B2:A1", Edge.range(4, 1, 1, 2, 2)).good("=B$2:A1", Edge.range(8, 1, 1, 2, 2))
            .good("=B2:$A1", Edge.range(1, 1, 1, 2, 2)).good("=B2:A$1", Edge.range(2, 1, 1, 2, 2))
            .good("=$B1:A2", Edge.range(4, 1, 1, 2, 2)).good("=B$1:A2", Edge.range(2, 1, 1, 2, 2))
            .good("=B1:$A2", Edge.range(1, 1, 1, 2, 2)).good("=B1:A$2", Edge.range(8, 1, 1, 2, 2))
            .good("=$A$1:$B$2", Edge.range(15, 1, 1, 2, 2)).good("=$B$2:$A$1", Edge.range(15, 1, 1, 2, 2))
            .good("=$B:A", Edge.range(20, 1, 1, 1048576, 2)).good("=B:$A", Edge.range(17, 1, 1, 1048576, 2))
            .good("=$A:B", Edge.range(17, 1, 1, 1048576, 2)).good("=A:$B", Edge.range(20, 1, 1, 1048576, 2))
            .good("=$2:1", Edge.range(40, 1, 1, 2, 16384)).good("=2:$1", Edge.range(34, 1, 1, 2, 16384))
            .good("=$1:2", Edge.range(34, 1, 1, 2, 16384)).good("=1:$2", Edge.range(40, 1, 1, 2, 16384));
        Edge.of("of equal ones the first is upper, left")
            .good("=$A1:A1", Edge.range(1, 1, 1, 1, 1)).good("=A$1:A1", Edge.range(2, 1, 1, 1, 1))
            .good("=A1:$A1", Edge.range(4, 1, 1, 1, 1)).good("=A1:A$1", Edge.range(8, 1, 1, 1, 1))
            .good("=$B9:B$3", Edge.range(3, 3, 2, 9, 2)).good("=C$4:$B4", Edge.range(3, 4, 2, 4, 3))
            .good("=$A:A", Edge.range(17, 1, 1, 1048576, 1)).good("=A:$A", Edge.range(20, 1, 1, 1048576, 1))
            .good("=$7:7", Edge.range(34, 7, 1, 7, 16384)).good("=7:$7", Edge.range(40, 7, 1, 7, 16384));
    }

    private static void sheets() {
        String longest = "s".repeat(31);
        String[] all = {"D", longest, "It's", "'", "x !y", "A1", "~", "S7"};
        Edge.of("SHEETS have numbers 0 .. 7", all)
            .good("=d!A1", "4 0 1 1").good("='D'!A1", "4 0 1 1").good("=S7!A1", "4 7 1 1").good("='s7'!A1", "4 7 1 1")
            .ill("=|S8!A1", "=|'S8'!A1", "=|D1!A1", "=|'D '!A1", "=|' D'!A1", "=|_!A1");
        Edge.of("a WORD, or characters 32 .. 126 between ' ('' standing for one ')", all)
            .good("=" + longest + "!A1", "4 1 1 1").good("='" + longest.toUpperCase() + "'!A1", "4 1 1 1")
            .illAt("=" + longest + "s!A1", 1).illAt("='" + longest + "s'!A1", 1)
            .illAt("='" + longest.substring(1) + "'!A1", 1)
            .good("='it''S'!A1", "4 2 1 1").good("=''''!A1", "4 3 1 1").good("='X !Y'!A1", "4 4 1 1")
            .good("='~'!A1", "4 6 1 1")
            .ill("=|'It's'!A1", "=|''!A1", "=|''''''!A1", "=|'''!A1", "=|'D\u001f'!A1", "=|'\u007f'!A1", "=|~!A1")
            .ill("=It|'s!A1")
            .good("=A1!A1", "4 5 1 1").good("='a1'!A1:B2", "5 5 1 1 2 2").ill("=|A2!A1", "=|$A1!A1");
        Edge.of("a SHEET that isn't there, or isn't closed, or without !", all)
            .ill("=|E!A1", "=|'E'!A1", "=1+|E!A1", "=|'D", "=|'D!A1", "=|'", "=|'D''!A1", "=|'D'", "=|'D'A1")
            .ill("=|'D' !A1")
            .ill("=|'D'(1)", "=f(|'D')", "={|'D'!A1}", "={|D!A1}", "=1 |D!A1", "=1|'D'!A1", "=D!A1 |D!A1", "=|!A1")
            .ill("=D |!A1");
        Edge.of("' and ! of no sheets").ill("=|D!A1", "=|'D'!A1", "=|'D", "=|''!A1", "=|!");
        Edge.of("a formula's longest text between '")
            .illAt("='" + "x".repeat(255) + "'!A1", 1).illAt("='" + "x".repeat(256) + "'!A1", 1)
            .illAt("='" + "x".repeat(1022), 1).illAt("='" + "''".repeat(509) + "'!A1", 1);
    }

    private static void behindSheets() {
        Edge edge = Edge.of("at the character behind a SHEET's ! if no PLACE or RANGE begins right there", "D", "A1");
        String[] none = {
            "", " A1", "A", "1", "$A", "$1", "XFE1", "A1048577", "A0", "A01", "AAAA1", "A:", "1:", "A:B1", "1:A",
            "$A:1", "f(1)", "A1(1)", "SUM(1)", "name", "TRUE", "\"A1\"", "#REF!", "(A1)", "-A1", "{1}", "D!A1",
            "'D'!A1", "!A1", ":A1", "A:XFE", "1:1048577", "0:1", "$XFE1", "A$0", "1.5", ")", "A1.5", "A1_",
            "A:B(1)", "1:2.5",
        };
        for (String behind : none) {
            edge.ill("=D!|" + behind, "='d'!|" + behind, "=1+A1!|" + behind, "=f(D!|" + behind + ")");
        }
        edge.good("=D!A1", "4 0 1 1").good("=D!$A$1", "52 0 1 1").good("=D!A:A", "261 0 1 1 1048576 1")
            .good("=D!$1:2", "549 0 1 1 2 16384").good("=D!A1:B2", "5 0 1 1 2 2").good("=A1!A1", "4 1 1 1")
            .ill("=D!A1|:", "=D!A1|:B", "=D!A1|:D!B2", "=D!|A1!B2", "=D!A:A|:A", "=D!A1 |:B2", "=D!A1|$");
    }
}
