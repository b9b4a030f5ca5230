/** Promise 16, ahead: GOODS, TILL or WEALTH in n MINUTES (0 to 100); NONE without these. */
public final class Promise16AheadTest {
    public static void main(String[] args) {
        stallsThatThereAre();
        minutes0To100();
        whats0To2();
        noMinutesAreNow();
        theHundredthMinute();
        minutesGoOnBeyond999();
        nothingChanges();
        Due.end();
    }

    private static void stallsThatThereAre() {
        Edge.refusedBeyond("stall", 0, 2, -1, (x, stall) -> x.ahead(stall, 1, 0));
        Due.is("no STALLS", Due.of("fair 1 0").ahead(0, 1, 0), -1);
        NextStall six = Due.of(Edge.SIX_STALLS);
        Due.is("of six the last one", six.ahead(5, 100, 0), 1);
        Due.is("a seventh", six.ahead(6, 100, 0), -1);
    }

    private static void minutes0To100() {
        Edge.refusedBeyond("n", 0, 100, -1, (x, n) -> x.ahead(0, n, 0));
    }

    private static void whats0To2() {
        Edge.refusedBeyond("what", 0, 2, -1, (x, what) -> x.ahead(0, 1, what));
    }

    private static void noMinutesAreNow() {
        NextStall x = Due.of(MinuteTest.FAIR);
        x.minute();
        for (int stall = 0; stall < 3; stall++) {
            Due.is("GOODS", x.ahead(stall, 0, 0), x.stall(stall, 0));
            Due.is("TILL", x.ahead(stall, 0, 1), x.stall(stall, 2));
            Due.is("WEALTH", x.ahead(stall, 0, 2), x.stall(stall, 3));
        }
        Due.is("TILL", x.ahead(1, 0, 1), 16);
    }

    private static void theHundredthMinute() {
        NextStall x = Edge.ruledBy("fair 1 0;stall 2 7 0;buyer 99 0", "buy 1 if day = 99 or day = 100");
        Due.is("GOODS ahead of it", x.ahead(0, 99, 0), 2);
        Due.is("GOODS behind it", x.ahead(0, 100, 0), 1);
        Due.is("WEALTH ahead of it", x.ahead(0, 99, 2), 0);
        Due.is("WEALTH behind it", x.ahead(0, 100, 2), 7);
        NextStall y = Edge.ruledBy("fair 20 0;stall 2 7 0;buyer 99 0", "buy 1 if day = 4 and minute = 18");
        Due.is("TILL ahead of DUSK", y.ahead(0, 99, 1), 7);
        Due.is("TILL behind DUSK", y.ahead(0, 100, 1), 0);
        Due.is("WEALTH behind DUSK", y.ahead(0, 100, 2), 7);
    }

    /** By hand no object gets so far within its 512 calls; it is asked all the same. */
    private static void minutesGoOnBeyond999() {
        NextStall x = Edge.ruledBy("fair 20 0;stall 2 7 0;buyer 99 0", "buy 1 if day = 54");
        for (int i = 0; i < 999; i++) {
            x.minute();
        }
        Due.is("day 54 is asked for", x.ahead(0, 82, 0), 1);
        Due.is("and the MINUTE ahead", x.ahead(0, 81, 0), 2);
    }

    private static void nothingChanges() {
        for (int what = 0; what <= 2; what++) {
            int asked = what;
            int due = Edge.rich().ahead(0, 100, what);
            Edge.unchanged("ahead", due, Edge::rich, x -> x.ahead(0, 100, asked));
        }
    }
}
