/** Promise 17, out: the first MINUTE of 200 at whose begin its GOODS are 0; -2: at none of these; NONE without it. */
public final class Promise17OutTest {
    private static final String ONE_PIECE = "fair 1 0;stall 1 1 0;buyer 9 0";

    public static void main(String[] args) {
        stallsThatThereAre();
        thisMinuteIsTheFirst();
        theNextMinute();
        theTwoHundredth();
        fromALaterMinuteOn();
        atNone();
        nothingChanges();
        Due.end();
    }

    private static void stallsThatThereAre() {
        Edge.refusedBeyond("stall", 0, 2, -1, (x, stall) -> x.out(stall));
        Due.is("no STALLS", Due.of("fair 1 0").out(0), -1);
        NextStall six = Due.of(Edge.SIX_STALLS);
        Due.is("of six the last one", six.out(5), -2);
        Due.is("a seventh", six.out(6), -1);
    }

    private static void thisMinuteIsTheFirst() {
        NextStall x = Due.of("fair 1 0;stall 0 1 0");
        Due.is("sold out from the begin on", x.out(0), 0);
        x.minute();
        x.minute();
        Due.is("sold out now", x.out(0), 2);
    }

    private static void theNextMinute() {
        NextStall x = Due.of(ONE_PIECE);
        Due.is("sold in this one", x.out(0), 1);
        x.minute();
        Due.is("sold out now", x.out(0), 1);
    }

    private static void theTwoHundredth() {
        Due.is("at the begin of the 200th", Edge.ruledBy(ONE_PIECE, "buy 1 if day = 198").out(0), 199);
        Due.is("in the 200th", Edge.ruledBy(ONE_PIECE, "buy 1 if day = 199").out(0), -2);
        Due.is("behind it", Edge.ruledBy(ONE_PIECE, "buy 1 if day = 200").out(0), -2);
    }

    private static void fromALaterMinuteOn() {
        NextStall x = Due.of(ONE_PIECE, "buy 1 if day = 203", "buy 1 if day = 204", "buy 0");
        x.force(2);
        for (int i = 0; i < 5; i++) {
            x.minute();
        }
        x.force(0);
        Due.is("at the begin of the 200th from 5 on", x.out(0), 204);
        x.force(1);
        Due.is("in the 200th", x.out(0), -2);
    }

    private static void atNone() {
        Due.is("nobody buys", Edge.ruledBy(ONE_PIECE, "buy 0").out(0), -2);
        Due.is("nobody is there", Due.of("fair 1 0;stall 1 1 0").out(0), -2);
        Due.is("too dear", Due.of("fair 1 0;stall 1 10 0;buyer 9 0").out(0), -2);
    }

    private static void nothingChanges() {
        // 0's were sold out in MINUTE 2; it is MINUTE 3.
        Edge.unchanged("out(0)", 3, Edge::rich, x -> x.out(0));
        Edge.unchanged("out(-1)", -1, Edge::rich, x -> x.out(-1));
    }
}
