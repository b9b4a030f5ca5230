/** Promise 4, the text of a FAIR: the last number that is taken and the first that is refused, the empty, the full. */
public final class Promise04FairTextTest {
    private static final String TWO = "fair 1 0;stall 1 1 0;stall 1 1 0";

    public static void main(String[] args) {
        longIs1To20();
        keepsIs0To9();
        goodsAre0To20();
        priceIs1To40();
        tongueIs0To20();
        purseIs0To99();
        fairIsOnceAndTheFirst();
        grudgesOfStallsThatWereTold();
        grudgeToldAlready();
        buyersOfStallsThatWereTold();
        sixStalls();
        sixBuyers();
        fortyClauses();
        fourHundredBytes();
        fiveDigits();
        wordsGoOn();
        everyLetterCounts();
        blanks();
        nothingOfAnEarlierText();
        Due.end();
    }

    private static void longIs1To20() {
        Due.is("LONG 1", Due.of("fair 1 0").count(0), 1);
        Due.is("LONG 20", Due.of("fair 20 0").count(0), 20);
        Edge.fairFault("fair ", "0 0", 1);
        Edge.fairFault("fair ", "21 0", 1);
        Edge.fairFault("fair ", "99999 0", 1);
        Edge.fairFault("fair ", "-1 0", 0);
    }

    private static void keepsIs0To9() {
        Due.is("KEEPS 0", Due.of("fair 1 0").count(1), 0);
        Due.is("KEEPS 9", Due.of("fair 1 9").count(1), 9);
        Edge.fairFault("fair 1 ", "10", 1);
        Edge.fairFault("fair 1 ", "-1", 0);
    }

    private static void goodsAre0To20() {
        Due.is("GOODS 0", Due.of("fair 1 0;stall 0 1 0").stall(0, 0), 0);
        Due.is("GOODS 20", Due.of("fair 1 0;stall 20 1 0").stall(0, 0), 20);
        Edge.fairFault("fair 1 0;stall ", "21 1 0", 1);
        Edge.fairFault("fair 1 0;stall ", "-1 1 0", 0);
    }

    private static void priceIs1To40() {
        Due.is("PRICE 1", Due.of("fair 1 0;stall 0 1 0").stall(0, 1), 1);
        Due.is("PRICE 40", Due.of("fair 1 0;stall 0 40 0").stall(0, 1), 40);
        Edge.fairFault("fair 1 0;stall 0 ", "0 0", 1);
        Edge.fairFault("fair 1 0;stall 0 ", "41 0", 1);
    }

    private static void tongueIs0To20() {
        Due.is("TONGUE 0", Due.of("fair 1 0;stall 0 1 0").stall(0, 6), 0);
        Due.is("TONGUE 20", Due.of("fair 1 0;stall 0 1 20").stall(0, 6), 20);
        Edge.fairFault("fair 1 0;stall 0 1 ", "21", 1);
    }

    private static void purseIs0To99() {
        Due.is("PURSE 0", Due.of(TWO + ";buyer 0 0").buyer(0, 0), 0);
        Due.is("PURSE 99", Due.of(TWO + ";buyer 99 0").buyer(0, 0), 99);
        Edge.fairFault(TWO + ";buyer ", "100 0", 1);
    }

    private static void fairIsOnceAndTheFirst() {
        Edge.fairTaken("fair 1 0", 0);
        Edge.fairFault("fair 1 0;", "fair 1 0", 4);
        Edge.fairFault(TWO + ";", "fair 1 0", 4);
        Edge.fairFault("", "stall 1 1 0;fair 1 0", 4);
        Edge.fairFault("", "grudge 0 1;fair 1 0", 4);
        Edge.fairFault("", "buyer 1 0;fair 1 0", 4);
        Edge.fairFault("", "", 0);
    }

    private static void grudgesOfStallsThatWereTold() {
        Due.is("the last one against the first", Due.of(TWO + ";grudge 1 0").stall(1, 7), 1);
        Due.is("the first against the last one", Due.of(TWO + ";grudge 0 1").stall(0, 7), 2);
        Edge.fairFault(TWO + ";grudge ", "2 0", 1);
        Edge.fairFault(TWO + ";grudge 0 ", "2", 1);
        Edge.fairFault(TWO + ";grudge 0 ", "2;stall 1 1 0", 1);
        Edge.fairFault("fair 1 0;grudge ", "0 1", 1);
        Edge.fairFault(TWO + ";grudge 0 ", "0", 1);
        Edge.fairFault(TWO + ";grudge 1 ", "1", 1);
        Edge.fairFault(TWO + ";grudge ", "2 2", 1);
        Due.is("of six the last one", Due.of(Edge.SIX_STALLS + ";grudge 5 4;grudge 5 0").stall(5, 7), 17);
        Edge.fairFault(Edge.SIX_STALLS + ";grudge ", "6 0", 1);
    }

    private static void grudgeToldAlready() {
        NextStall x = Due.of(TWO + ";grudge 0 1;grudge 0 1");
        Due.is("told twice", x.stall(0, 7), 2);
        Due.is("told three times", Due.of(TWO + ";grudge 0 1;grudge 0 1;grudge 0 1").stall(0, 7), 2);
        Due.is("one act makes it none", x.grudge(0, 1), 0);
        NextStall both = Due.of(TWO + ";grudge 0 1;grudge 1 0");
        Due.is("the other way round is another", both.stall(0, 7), 2);
        Due.is("the other way round is another", both.stall(1, 7), 1);
    }

    private static void buyersOfStallsThatWereTold() {
        Due.is("for the last one's", Due.of(TWO + ";buyer 1 1").buyer(0, 1), 1);
        Due.is("for the first one's", Due.of(TWO + ";buyer 1 0").buyer(0, 1), 0);
        Edge.fairFault(TWO + ";buyer 1 ", "2", 1);
        Edge.fairFault("fair 1 0;buyer 1 ", "0", 1);
        Edge.fairFault("fair 1 0;buyer 1 ", "0;stall 1 1 1", 1);
    }

    private static void sixStalls() {
        Edge.fairTaken(Edge.SIX_STALLS, 6);
        Edge.fairFault(Edge.SIX_STALLS + ";", "stall 1 1 1", 4);
        Edge.fairFault(Edge.SIX_STALLS + ";", "stall", 4);
        Edge.fairTaken(Edge.SIX_STALLS + ";buyer 0 5", 6);
    }

    private static void sixBuyers() {
        String six = TWO + ";buyer 7 1".repeat(6);
        NextStall x = Due.of(six);
        Due.is("BUYERS", x.count(3), 6);
        Due.is("the last one", x.buyer(5, 0), 7);
        Due.is("none behind it", x.buyer(6, 0), -1);
        Edge.fairFault(six + ";", "buyer 7 1", 4);
        Edge.fairFault(six + ";", "buyer", 4);
        Edge.fairTaken(six + ";stall 1 1 1;grudge 0 1", 3);
        Due.is("no BUYERS", Due.of(TWO).count(3), 0);
    }

    private static void fortyClauses() {
        String ahead = "fair1 0;stall1 1 0;stall1 1 0" + ";buyer0 0".repeat(6) + ";grudge0 1".repeat(30) + ";";
        Edge.fairTaken(ahead + "grudge1 0", 2);
        Edge.fairTaken(ahead + "stall1 1 0", 3);
        String full = ahead + "grudge1 0;";
        Edge.fairFault(full, "grudge", 4);
        Edge.fairFault(full, "buyer", 4);
        Edge.fairFault(full, "stall", 4);
        Edge.fairFault(full, "fair", 4);
        Edge.fairFault(full, "stal", 0);
        Edge.fairFault(full, "", 0);
        Edge.fairFault(full, ";", 0);
    }

    private static void fourHundredBytes() {
        String ahead = "fair 1 0;stall 1 1 0" + " ".repeat(370);
        Edge.fairTaken(ahead + ";buyer 9 0", 1);
        Edge.fairFault(ahead + ";buyer 9 ", "1", 1);
        Edge.fairFault(ahead + ";buyer 99 ", "", 0);
    }

    private static void fiveDigits() {
        Edge.fairTaken("fair 00001 00009;stall 00020 00040 00020;buyer 00099 00000", 1);
        Edge.fairFault("fair ", "000001 0", 1);
        Edge.fairFault("fair 1 ", "000000", 1);
        Edge.fairFault("fair 1 0;stall ", "000001 1 1", 1);
        Edge.fairFault("fair ", "99999999999999999999 0", 1);
        Edge.fairFault("fair ", "4294967297 0", 1);
        Edge.fairFault("fair ", "18446744073709551617 0", 1);
        // Digits go on: this is one NUMBER, and the second one is missing.
        Edge.fairFault("fair 10", "", 0);
    }

    private static void wordsGoOn() {
        Edge.fairFault("", "fairs 1 0", 0);
        Edge.fairFault("", "fai 1 0", 0);
        Edge.fairFault("", "fairfair 1 0", 0);
        Edge.fairFault("", "FAIR 1 0", 0);
        Edge.fairFault("", "fAir 1 0", 0);
        Edge.fairFault("fair 1 0;", "stallx 1 1 1", 0);
        Edge.fairFault("fair 1 0;", "buy 1 0", 0);
        Edge.fairFault("fair 1 0;", "buyers 1 0", 0);
        Edge.fairFault("fair 1 0;", "grudges 0 1", 0);
        Edge.fairTaken("fair1 0;stall1 1 1", 1);
        // Behind a and z in the row of signs no letters follow: these end a WORD, and can't stand.
        Edge.fairFault("fair", "` 1 0", 0);
        Edge.fairFault("fair", "{ 1 0", 0);
        Edge.fairFault("fair 1", "/ 0", 0);
        Edge.fairFault("fair 1", ": 0", 0);
    }

    private static void everyLetterCounts() {
        for (String word : Edge.misspelt("fair")) {
            Edge.fairFault("", word + " 1 0", 0);
        }
        for (String word : Edge.misspelt("stall")) {
            Edge.fairFault("fair 1 0;", word + " 1 1 1", 0);
        }
        for (String word : Edge.misspelt("grudge")) {
            Edge.fairFault(TWO + ";", word + " 0 1", 0);
        }
        for (String word : Edge.misspelt("buyer")) {
            Edge.fairFault(TWO + ";", word + " 0 1", 0);
        }
        Edge.fairFault("", "faira 1 0", 0);
        Edge.fairFault("", "fairz 1 0", 0);
    }

    private static void blanks() {
        Edge.fairTaken("   fair   1   0   ;   stall   1   1   1   ", 1);
        Edge.fairFault("   ", "", 0);
        Edge.fairFault("fair 1   ", "", 0);
        Edge.fairFault("fair", "\t1 0", 0);
        Edge.fairFault("fair 1 0", "\n", 0);
        Edge.fairFault("fair 1 0", "\u00a0", 0);
        Edge.fairFault("fair 1 0", "\u0000", 0);
        Edge.fairFault("", "f air 1 0", 0);
    }

    /** A text ends where it ends, whatever longer one was read ahead of it. */
    private static void nothingOfAnEarlierText() {
        String text = "fair 11 9;stall 11 11 11;stall 1 1 1;grudge 0 1;buyer 11 0";
        for (int n = 0; n <= text.length(); n++) {
            NextStall x = Due.of(text);
            Due.is("the first " + n + " bytes", Due.fair(x, text.substring(0, n)), Due.fair(new NextStall(), text.substring(0, n)));
        }
        NextStall x = Due.of(text);
        Due.is("a word that is cut", Due.fair(x, "fai"), Due.fault(0, 0));
        Due.is("a number that is missing", Due.fair(x, "fair 1"), Due.fault(6, 0));
        Due.is("a number that is cut", Due.fair(x, "fair 1 9"), 0);
        Due.is("LONG", x.count(0), 1);
    }
}
