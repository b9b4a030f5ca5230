/** Promise 7, stall: what there is of a STALL; NONE without these. */
public final class Promise07StallTest {
    public static void main(String[] args) {
        stallsThatThereAre();
        whats0To8();
        theRingGoesRound();
        ofASingleOneItself();
        ofTwoEachOther();
        halfOfTheTongueDownwards();
        grudgesOfTheSellerAlone();
        grudgesAsBits();
        goodsFromAllToNone();
        nothingChanges();
        Due.end();
    }

    private static void stallsThatThereAre() {
        Edge.refusedBeyond("stall", 0, 2, -1, (x, stall) -> x.stall(stall, 0));
        Due.is("the last one", Edge.rich().stall(2, 1), 4);
        NextStall six = Due.of(Edge.SIX_STALLS);
        Due.is("of six the last one", six.stall(5, 0), 1);
        Due.is("a seventh", six.stall(6, 0), -1);
        Due.is("of a FAIR without STALLS", Due.of("fair 1 0").stall(0, 0), -1);
    }

    private static void whats0To8() {
        Edge.refusedBeyond("what", 0, 8, -1, (x, what) -> x.stall(0, what));
        NextStall x = Due.of(MinuteTest.FAIR);
        Due.is("the first what", x.stall(2, 0), 5);
        Due.is("the last what", x.stall(2, 8), 0);
        x.minute();
        Due.is("the last what", x.stall(2, 8), 2);
        Due.is("neither", x.stall(3, 9), -1);
    }

    private static void theRingGoesRound() {
        NextStall x = Due.of("fair 1 0;stall 1 1 1;stall 1 1 2;stall 1 1 3;stall 1 1 4;stall 1 1 5;stall 1 1 6");
        Due.is("the first one's goods, the last sells them", x.stall(0, 5), 5);
        Due.is("PRAISE by the last", x.stall(0, 6), 6);
        Due.is("the last one's goods", x.stall(5, 5), 4);
        Due.is("PRAISE", x.stall(5, 6), 5);
        x.move(0, 5);
        Due.is("the last is the first then", x.stall(5, 4), 0);
        Due.is("whose goods the first one sells", x.stall(5, 5), 0);
        Due.is("who stands last", x.stall(0, 4), 5);
    }

    private static void ofASingleOneItself() {
        NextStall x = Due.of("fair 1 0;stall 1 1 7");
        Due.is("who sells", x.stall(0, 5), 0);
        Due.is("PRAISE", x.stall(0, 6), 7);
        Due.is("where", x.stall(0, 4), 0);
        Due.is("grudges", x.stall(0, 7), 0);
    }

    private static void ofTwoEachOther() {
        NextStall x = Due.of("fair 1 0;stall 1 1 7;stall 1 1 4");
        Due.is("who sells 0's", x.stall(0, 5), 1);
        Due.is("who sells 1's", x.stall(1, 5), 0);
        x.move(0, 1);
        Due.is("who sells 0's then", x.stall(0, 5), 1);
        Due.is("who sells 1's then", x.stall(1, 5), 0);
    }

    private static void halfOfTheTongueDownwards() {
        int[][] halves = {{0, 0}, {1, 0}, {2, 1}, {3, 1}, {19, 9}, {20, 10}};
        for (int[] half : halves) {
            NextStall x = Due.of("fair 1 0;stall 1 1 " + half[0] + ";stall 1 1 0");
            Due.is("PRAISE by a TONGUE of " + half[0], x.stall(1, 6), half[0]);
            x.grudge(0, 1);
            Due.is("half of " + half[0], x.stall(1, 6), half[1]);
            x.grudge(0, 1);
            Due.is("all of it again", x.stall(1, 6), half[0]);
        }
    }

    private static void grudgesOfTheSellerAlone() {
        NextStall x = Due.of("fair 1 0;stall 1 1 8;stall 1 1 6;stall 1 1 4;grudge 1 0;grudge 0 2;grudge 2 1");
        Due.is("PRAISE of 0's by 2", x.stall(0, 6), 4);
        Due.is("PRAISE of 1's by 0", x.stall(1, 6), 8);
        Due.is("PRAISE of 2's by 1", x.stall(2, 6), 6);
        x.move(1, 2);
        Due.is("0 sells 2's then", x.stall(2, 6), 4);
        Due.is("2 sells 1's then", x.stall(1, 6), 2);
        Due.is("1 sells 0's then", x.stall(0, 6), 3);
    }

    private static void grudgesAsBits() {
        NextStall x = Due.of(Edge.SIX_STALLS);
        for (int other = 0; other < 5; other++) {
            x.grudge(5, other);
            Due.is("as bits", x.stall(5, 7), (2 << other) - 1);
        }
        for (int other = 1; other < 6; other++) {
            x.grudge(0, other);
        }
        Due.is("against all others", x.stall(0, 7), 62);
        Due.is("against none", x.stall(3, 7), 0);
    }

    private static void goodsFromAllToNone() {
        NextStall x = Due.of(Edge.ONE_A_DAY);
        for (int i = 0; i <= 20; i++) {
            Due.is("GOODS left", x.stall(0, 0), 20 - i);
            Due.is("sold", x.stall(0, 8), i);
            x.minute();
        }
        Due.is("never below 0", x.stall(0, 0), 0);
        Due.is("never more than there were", x.stall(0, 8), 20);
    }

    private static void nothingChanges() {
        int[] due = {0, 5, 0, 29, 1, 1, 9, 2, 4};
        for (int what = 0; what <= 8; what++) {
            int asked = what;
            Due.is("stall(0, " + what + ")", Edge.rich().stall(0, what), due[what]);
            Edge.unchanged("stall(0, " + what + ")", due[what], Edge::rich, x -> x.stall(0, asked));
        }
    }
}
