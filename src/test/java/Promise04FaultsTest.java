/** Promise 4, FAULTS of a FAIR: where each stands, the first along the text, of one place the least. */
public final class Promise04FaultsTest {
    private static final String ONE = "fair 1 0;stall 1 1 0";

    public static void main(String[] args) {
        whatCantStandThere();
        theEndBehindTheLastByte();
        numbersNotAsTold();
        oneClauseTooMany();
        theFirstAlongTheText();
        ofOnePlaceTheLeast();
        answers();
        Due.end();
    }

    private static void whatCantStandThere() {
        Edge.fairFault("", ";fair 1 0", 0);
        Edge.fairFault("", "1 fair 0", 0);
        Edge.fairFault("", "if", 0);
        Edge.fairFault("fair ", "fair", 0);
        Edge.fairFault("fair ", ";", 0);
        Edge.fairFault("fair 1", ";0", 0);
        Edge.fairFault("fair 1 0 ", "0", 0);
        Edge.fairFault("fair 1 0 ", "stall 1 1 1", 0);
        Edge.fairFault("fair 1 0;", ";", 0);
        Edge.fairFault("fair 1 0;", "\u00ff", 0);
        Edge.fairFault(ONE, "x", 0);
        Edge.fairFault(ONE + " ", "0", 0);
        Edge.fairFault(ONE + ";buyer 1 0", "=", 0);
        Edge.fairFault("fair 1 0;stall 1 1 ", "x", 0);
    }

    private static void theEndBehindTheLastByte() {
        Edge.fairFault("", "", 0);
        Edge.fairFault("fair", "", 0);
        Edge.fairFault("fair 1", "", 0);
        Edge.fairFault("fair 1 0;", "", 0);
        Edge.fairFault("fair 1 0;stall", "", 0);
        Edge.fairFault("fair 1 0;stall 1", "", 0);
        Edge.fairFault("fair 1 0;stall 1 1", "", 0);
        Edge.fairFault(ONE + ";grudge", "", 0);
        Edge.fairFault(ONE + ";grudge 0", "", 0);
        Edge.fairFault(ONE + ";buyer", "", 0);
        Edge.fairFault(ONE + ";buyer 1  ", "", 0);
    }

    private static void numbersNotAsTold() {
        Edge.fairFault("fair ", "21 0", 1);
        Edge.fairFault("fair   ", "123456 0", 1);
        Edge.fairFault(ONE + ";grudge 0   ", "0", 1);
        Edge.fairFault(ONE + ";grudge 0   ", "000000", 1);
        Edge.fairFault(ONE + ";buyer 1   ", "1", 1);
    }

    private static void oneClauseTooMany() {
        Edge.fairFault("fair 1 0;   ", "fair", 4);
        Edge.fairFault("   ", "stall", 4);
        Edge.fairFault("   ", "grudge", 4);
        Edge.fairFault("   ", "buyer", 4);
        Edge.fairFault(Edge.SIX_STALLS + ";   ", "stall 99 99 99", 4);
        Edge.fairFault(ONE + ";buyer 0 0".repeat(6) + ";   ", "buyer 999 9", 4);
    }

    private static void theFirstAlongTheText() {
        Edge.fairFault("fair ", "0 10;fair;;x", 1);
        Edge.fairFault("fair 1 ", "10 x", 1);
        Edge.fairFault("fair 1 0;", "fair 0 99", 4);
        Edge.fairFault("", "x 0 99;fair", 0);
        Edge.fairFault(ONE + ";grudge ", "1 1", 1);
        Edge.fairFault(ONE + ";grudge ", "1 x", 1);
        Edge.fairFault(ONE + ";grudge ", "x 1", 0);
        Edge.fairFault(ONE + ";stall ", "21 41 21", 1);
        Edge.fairFault(ONE + ";stall 20 ", "41 21", 1);
    }

    private static void ofOnePlaceTheLeast() {
        Edge.fairFault(Edge.SIX_STALLS + ";", "stalls", 0);
        Edge.fairFault("", "stalls", 0);
        Edge.fairFault("fair 1 0;", "fairy", 0);
        Edge.fairFault(ONE + ";buyer 0 0".repeat(6) + ";", "buyer\u00e9", 4);
    }

    /** -2 - (1 + 8 * its place + its kind). */
    private static void answers() {
        Due.is("0 at 0", Due.fair(new NextStall(), ""), -3);
        Due.is("4 at 0", Due.fair(new NextStall(), "stall"), -7);
        Due.is("0 at 4", Due.fair(new NextStall(), "fair"), -35);
        Due.is("1 at 5", Due.fair(new NextStall(), "fair 0 0"), -44);
        Due.is("0 at 400", Due.fair(new NextStall(), "fair 1" + " ".repeat(394)), -3203);
        Due.is("0 at 399", Due.fair(new NextStall(), "fair 1 0" + " ".repeat(391) + "0"), -3195);
    }
}
