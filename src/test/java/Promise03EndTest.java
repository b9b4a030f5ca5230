/** Promise 3, end: the TAPE has its first n bytes alone; NONE, and nothing happens, beyond what it has or below 0. */
public final class Promise03EndTest {
    public static void main(String[] args) {
        ofAnEmptyTape();
        asManyAsThereAre();
        firstBytesAlone();
        none();
        ofAFullTape();
        refused();
        whatIsCutIsGone();
        Due.end();
    }

    private static void ofAnEmptyTape() {
        NextStall x = new NextStall();
        Due.is("end(0)", x.end(0), 0);
        Due.is("end(1)", x.end(1), -1);
        Due.is("end(-1)", x.end(-1), -1);
        Due.is("bytes", x.count(13), 0);
    }

    private static void asManyAsThereAre() {
        NextStall x = new NextStall();
        x.feed(1, 2, 3, 4, 5);
        Due.is("end(20)", x.end(20), 20);
        Due.is("end(21)", x.end(21), -1);
        Due.is("bytes", x.count(13), 20);
        Due.is("end(19)", x.end(19), 19);
        Due.is("end(20) then", x.end(20), -1);
        Due.is("bytes", x.count(13), 19);
    }

    private static void firstBytesAlone() {
        String text = "fair 1 0;stall 1 1 1";
        for (int n = 0; n <= 20; n++) {
            NextStall x = new NextStall();
            Due.tell(x, text);
            Due.is("end(" + n + ")", x.end(n), n);
            Due.is("bytes", x.count(13), n);
            int due = n == 20 ? 1 : n == 8 ? 0 : n < 4 ? Due.fault(0, 0) : n >= 10 && n < 14 ? Due.fault(9, 0) : Due.fault(n, 0);
            Due.is("the first " + n + " bytes", x.fair(), due);
        }
    }

    private static void none() {
        NextStall x = new NextStall();
        x.feed(1, 2, 3, 4, 5);
        Due.is("end(0)", x.end(0), 0);
        Due.is("bytes", x.count(13), 0);
        Due.is("an empty text", x.rule(), Due.fault(0, 0));
    }

    private static void ofAFullTape() {
        NextStall x = new NextStall();
        for (int i = 0; i < 20; i++) {
            x.feed(0, 0, 0, 0, 0);
        }
        Due.is("end(401)", x.end(401), -1);
        Due.is("end(400)", x.end(400), 400);
        Due.is("end(399)", x.end(399), 399);
        Due.is("end(400) then", x.end(400), -1);
    }

    private static void refused() {
        Edge.refusedBeyond("end", 0, 20, -1, (x, n) -> x.end(n));
        Edge.unchanged("end(20) of 20", 20, Edge::rich, x -> x.end(20));
    }

    private static void whatIsCutIsGone() {
        NextStall x = new NextStall();
        Due.tell(x, "fair 1 0;stall 1 1 1");
        x.end(8);
        Due.is("not to be had again", x.end(20), -1);
        x.feed(0x20202020, 0x20202020, 0x20202020, 0x20202020, 0x20202020);
        Due.is("bytes that come stand in its place", x.fair(), 0);
    }
}
