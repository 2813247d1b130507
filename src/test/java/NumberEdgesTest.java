/** "Terms": the edges of a NUMBER as it is read. */
public final class NumberEdgesTest {
    public static void main(String[] args) {
        parts();
        fifteenDigits();
        firstDigitsPower();
        digitsOfExponent();
        halves();
        Check.finish();
    }

    private static void parts() {
        Edge.of("digits, perhaps a point and digits, or a point and digits")
            .good("=0", "0 0 0 0").good("=9", "0 0 9 0").good("=1.5", Edge.number(15, -1))
            .good("=.5", Edge.number(5, -1)).good("=00.50", Edge.number(5, -1)).good("=.0", "0 0 0 0")
            .ill("=|.", "=1|.", "=1|..5", "=1.5|.", "=1.5|.5", "=.5|.5", "=1|.E5", "=|.E5", "=|..5", "=1 |.5")
            .ill("=1|. 5", "=1 |5");
        Edge.of("perhaps E, perhaps + or -, one to three digits")
            .good("=1E5", Edge.number(1, 5)).good("=1e5", Edge.number(1, 5)).good("=1E+5", Edge.number(1, 5))
            .good("=1e-5", Edge.number(1, -5)).good("=.5E1", Edge.number(5, 0)).good("=1.5E1", Edge.number(15, 0))
            .ill("=1|E", "=1|E+", "=1|E-", "=1|e", "=1|E++1", "=1|E+-1", "=1|E 5", "=1 |E5", "=1|E+ 5", "=1|E.5")
            .ill("=1E5|.5", "=1E5|E5", "=1E5|a", "=1|F5", "=1|D5", "=1|_");
        Edge.of("signs are none of a NUMBER's")
            .good("=-1", "0 0 1 0 217").good("=+1", "0 0 1 0 233").good("=1E5+1", "0 0 1 5 0 0 1 0 121")
            .good("=1-1", "0 0 1 0 0 0 1 0 137");
    }

    private static void fifteenDigits() {
        Edge.of("at most 15 digits")
            .good("=123456789012345", Edge.number(123456789012345L, 0)).ill("=|1234567890123456")
            .good("=999999999999999", Edge.number(999999999999999L, 0)).ill("=|9999999999999999")
            .good("=1234567.89012345", Edge.number(123456789012345L, -8)).ill("=|1234567.890123456")
            .good("=.123456789012345", Edge.number(123456789012345L, -15)).ill("=|.1234567890123456")
            .good("=1+12345678901234.5", "0 0 1 0 " + Edge.number(123456789012345L, -1) + " 121")
            .ill("=1+|12345678901234.56", "=1+|123456789012345.6");
        Edge.of("from the first that isn't 0")
            .good("=" + "0".repeat(20) + "123456789012345", Edge.number(123456789012345L, 0))
            .good("=000.000123456789012345", Edge.number(123456789012345L, -18))
            .illAt("=" + "0".repeat(20) + "1234567890123456", 1).ill("=|000.0001234567890123456")
            .good("=100000000000001", Edge.number(100000000000001L, 0)).ill("=|1000000000000001")
            .good("=10000000.0000001", Edge.number(100000000000001L, -7)).ill("=|10000000.00000001")
            .good("=0.100000000000001", Edge.number(100000000000001L, -15)).ill("=|0.1000000000000001");
        Edge.of("to the last that isn't")
            .good("=123456789012345000", Edge.number(123456789012345L, 3)).ill("=|1234567890123450001")
            .good("=1.23456789012345000", Edge.number(123456789012345L, -14)).ill("=|1.234567890123450001")
            .good("=123456789012345.000", Edge.number(123456789012345L, 0)).ill("=|123456789012345.001")
            .good("=1" + "0".repeat(30) + ".0", Edge.number(1, 30)).illAt("=1" + "0".repeat(30) + ".1", 1);
        Edge.of("E's not counted")
            .good("=123456789012345E123", Edge.number(123456789012345L, 123)).ill("=|1234567890123456E1")
            .good("=0.1E111", Edge.number(1, 110));
        Edge.of("also in an ARRAY")
            .good("={-123456789012345}", "16 114978 101572473 0 24 1")
            .ill("={-|1234567890123456}", "={|.1234567890123456}");
    }

    private static void firstDigitsPower() {
        Edge.of("10 to the 999")
            .good("=1E999", Edge.number(1, 999)).ill("=|10E999", "=|1234E999")
            .good("=9.99999999999999E999", Edge.number(999999999999999L, 985)).ill("=|10.0000000000001E999")
            .good("=10E998", Edge.number(1, 999)).ill("=|100E998")
            .good("=123456789012345E985", Edge.number(123456789012345L, 985)).ill("=|123456789012345E986")
            .good("=.1E999", Edge.number(1, 998)).good("=0.001E999", Edge.number(1, 996))
            .good("=1" + "0".repeat(999), Edge.number(1, 999)).illAt("=1" + "0".repeat(1000), 1)
            .good("=1" + "0".repeat(1000) + "E-1", Edge.number(1, 999)).illAt("=1" + "0".repeat(1000) + "E-0", 1)
            .good("={1E999}", "0 0 1 999 24 1").ill("={|10E999}", "={-|10E999}");
        Edge.of("10 to the -999")
            .good("=1E-999", Edge.number(1, -999)).ill("=|.1E-999", "=|0.9E-999", "=|0.0001E-999")
            .good("=9.9E-999", Edge.number(99, -1000)).ill("=|0.99E-999")
            .good("=0.9E-998", Edge.number(9, -999)).ill("=|0.09E-998")
            .good("=1.23456789012345E-999", Edge.number(123456789012345L, -1013))
            .good("=10E-999", Edge.number(1, -998))
            .good("=." + "0".repeat(998) + "1", Edge.number(1, -999)).illAt("=." + "0".repeat(999) + "1", 1)
            .good("=." + "0".repeat(1000) + "1E2", Edge.number(1, -999)).illAt("=." + "0".repeat(1000) + "1E1", 1)
            .good("={-1E-999}", "16 0 1 -999 24 1").ill("={|.1E-999}");
        Edge.of("0 has no first digit that isn't 0; its P is 0")
            .good("=0E999", "0 0 0 0").good("=0E-999", "0 0 0 0").good("=.0E-999", "0 0 0 0")
            .good("=000.000", "0 0 0 0").good("=0" + "0".repeat(1000), "0 0 0 0")
            .good("=." + "0".repeat(1000) + "E-999", "0 0 0 0").good("={-0E5}", "16 0 0 0 24 1");
    }

    private static void digitsOfExponent() {
        Edge.of("one to three digits")
            .good("=1E0", Edge.number(1, 0)).good("=1E9", Edge.number(1, 9)).good("=1E99", Edge.number(1, 99))
            .good("=1E009", Edge.number(1, 9)).good("=1E-009", Edge.number(1, -9)).good("=1E+000", Edge.number(1, 0))
            .ill("=1E009|9", "=1E000|1", "=1E-999|9", "=1E+123|4", "={1E123|4}");
    }

    private static void halves() {
        Edge.of("M / 1073741824, M % 1073741824, P")
            .good("=1073741823", "0 0 1073741823 0").good("=1073741824", "0 1 0 0").good("=1073741825", "0 1 1 0")
            .good("=2147483647", "0 1 1073741823 0").good("=2147483648", "0 2 0 0")
            .good("=4294967296", "0 4 0 0");
        Edge.of("M without zeros at its end")
            .good("=10", Edge.number(1, 1)).good("=1.0", Edge.number(1, 0)).good("=10.10", Edge.number(101, -1))
            .good("=101", Edge.number(101, 0)).good("=100E-2", Edge.number(1, 0)).good("=1.10E1", Edge.number(11, 0));
    }
}
