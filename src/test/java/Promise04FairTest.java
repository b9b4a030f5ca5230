/** Promise 4, fair: the TAPE is the FAIR in place of the one there was; -2 - its FAULT, and all stays. */
public final class Promise04FairTest {
    public static void main(String[] args) {
        theTapeIsEmptyThen();
        theTapeIsEmptyBehindAFault();
        inPlaceOfTheOneThereWas();
        noNotesThen();
        nothingToBeUndoneThen();
        theRuleInForceStays();
        xStays();
        rulesAndImagesStay();
        howManyStalls();
        behindAFaultAllStays();
        behindAFaultThereIsStillNoFair();
        itBegins();
        itBeginsWhateverWasAsked();
        Due.end();
    }

    private static void theTapeIsEmptyThen() {
        NextStall x = new NextStall();
        Due.tell(x, "fair 1 0");
        Due.is("bytes", x.count(13), 8);
        Due.is("fair", x.fair(), 0);
        Due.is("bytes", x.count(13), 0);
        Due.is("an empty text has a FAULT", x.fair(), Due.fault(0, 0));
    }

    private static void theTapeIsEmptyBehindAFault() {
        NextStall x = new NextStall();
        Due.is("a FAULT", Due.fair(x, "fair 0 0"), Due.fault(5, 1));
        Due.is("bytes", x.count(13), 0);
    }

    private static void inPlaceOfTheOneThereWas() {
        NextStall x = Edge.rich();
        Due.is("another", Due.fair(x, "fair 5 1;stall 7 8 9;buyer 3 0"), 1);
        int[] counts = {5, 1, 1, 1, 2, 0, 0, 7, 0, 0, 0, 0, 77, 0};
        for (int what = 0; what < counts.length; what++) {
            Due.is("count(" + what + ")", x.count(what), counts[what]);
        }
        int[] stall = {7, 8, 0, 0, 0, 0, 9, 0, 0};
        for (int what = 0; what < stall.length; what++) {
            Due.is("stall(0, " + what + ")", x.stall(0, what), stall[what]);
        }
        Due.is("no second STALL", x.stall(1, 0), -1);
        Due.is("no second BUYER", x.buyer(1, 0), -1);
        Due.is("nothing was bought", x.had(0, 0), 0);
        Due.is("PURSE", x.buyer(0, 0), 3);
    }

    private static void noNotesThen() {
        NextStall x = Due.of(Edge.ONE_A_DAY);
        for (int i = 0; i < 10; i++) {
            x.note(0, 0, 9);
        }
        Due.fair(x, Edge.ONE_A_DAY);
        Due.is("NOTES", x.count(10), 0);
        Due.is("what none was so is so then", x.ruled(0), 1);
        Due.is("the first again", x.note(0, 0, 9), 1);
    }

    private static void nothingToBeUndoneThen() {
        NextStall x = Due.of(Edge.ONE_A_DAY);
        for (int i = 0; i < 20; i++) {
            x.minute();
        }
        Due.fair(x, Edge.ONE_A_DAY);
        Due.is("ACTS", x.count(11), 0);
        Due.is("undo", x.undo(), -1);
        Due.is("MINUTE", x.count(6), 0);
    }

    private static void theRuleInForceStays() {
        NextStall x = Edge.ruledBy(Edge.ONE_A_DAY, "buy 0");
        Due.fair(x, Edge.ONE_A_DAY);
        Due.is("the RULE IN FORCE", x.count(5), 0);
        Due.is("nothing is bought by it", x.minute(), 0);
        NextStall none = Due.of(Edge.ONE_A_DAY, "buy 0");
        Due.fair(none, Edge.ONE_A_DAY);
        Due.is("none IN FORCE", none.count(5), -1);
    }

    private static void xStays() {
        NextStall x = new NextStall();
        x.seed(Integer.MAX_VALUE);
        Due.fair(x, Edge.ONE_A_DAY);
        Due.is("x", x.count(12), Integer.MAX_VALUE);
    }

    private static void rulesAndImagesStay() {
        NextStall x = Due.of(MinuteTest.FAIR, "buy 1", "buy 2");
        x.minute();
        x.image(0);
        Due.fair(x, "fair 1 0");
        Due.is("RULES", x.count(4), 2);
        Due.is("an IMAGE of the one there was", x.back(0), 1);
        Due.is("STALLS", x.count(2), 3);
    }

    private static void howManyStalls() {
        for (int many = 0; many <= 6; many++) {
            NextStall x = new NextStall();
            Due.is("fair", Due.fair(x, "fair 1 0" + ";stall 1 1 0".repeat(many)), many);
            Due.is("STALLS", x.count(2), many);
            Due.is("the last one", x.stall(many - 1, 0), many == 0 ? -1 : 1);
            Due.is("none behind it", x.stall(many, 0), -1);
        }
    }

    private static void behindAFaultAllStays() {
        String[] faulty = {"fair 21 0", "fair 1 0;stall 9 9 9;buyer 9", "stall 1 1 1", MinuteTest.FAIR + ";", ""};
        for (String text : faulty) {
            NextStall told = new NextStall();
            int fault = Due.fair(told, text);
            Edge.unchanged("a FAULT of \"" + text + "\"", fault, Promise04FairTest::richOfNoTape, x -> Due.fair(x, text));
        }
    }

    private static NextStall richOfNoTape() {
        NextStall x = Edge.rich();
        x.end(0);
        return x;
    }

    private static void behindAFaultThereIsStillNoFair() {
        NextStall x = new NextStall();
        Due.fair(x, "fair 3 4;stall 1 1 1;stall");
        Due.is("STALLS", x.count(2), 0);
        Due.is("LONG", x.count(0), 0);
        Due.is("minute", x.minute(), -1);
        Due.is("taken", x.taken(0), -1);
    }

    private static void itBegins() {
        NextStall x = Edge.rich();
        Due.fair(x, Edge.SIX_STALLS + ";buyer 99 5");
        Due.is("MINUTE", x.count(6), 0);
        for (int stall = 0; stall < 6; stall++) {
            Due.is("where it stands", x.stall(stall, 4), stall);
            Due.is("who sells its goods", x.stall(stall, 5), (stall + 5) % 6);
            Due.is("TILL", x.stall(stall, 2), 0);
            Due.is("WEALTH", x.stall(stall, 3), 0);
            Due.is("sold", x.stall(stall, 8), 0);
            Due.is("grudges", x.stall(stall, 7), 0);
            Due.is("had", x.had(0, stall), 0);
        }
    }

    private static void itBeginsWhateverWasAsked() {
        String fair = "fair 20 5" + ";stall 20 1 0".repeat(6) + ";buyer 99 0".repeat(6);
        NextStall x = Due.of(fair);
        // In 30 MINUTES all is bought, a day is over and another one has begun.
        Due.is("taken", x.taken(30), 120);
        Due.is("the same again", Due.fair(x, fair), 6);
        Due.is("MINUTE", x.count(6), 0);
        Due.is("GOODS", x.count(7), 120);
        Due.is("WEALTH", x.count(8), 0);
        for (int stall = 0; stall < 6; stall++) {
            Due.is("sold", x.stall(stall, 8), 0);
            for (int buyer = 0; buyer < 6; buyer++) {
                Due.is("had", x.had(buyer, stall), 0);
            }
        }
        NextStall y = Due.of(fair);
        Due.is("taken ahead of DUSK", y.taken(9), 54);
        Due.fair(y, fair);
        Due.is("TILLS", y.count(9), 0);
        Due.is("MINUTE", y.count(6), 0);
    }
}
