/** Promises 9 to 16: what is asked of readings, the LIST, OUT and the tape, also of nothing. */
public final class AskingTest {
    private static final int MIN = Integer.MIN_VALUE;
    private static final int MAX = Integer.MAX_VALUE;
    private static final byte[] TWO_PAGES = Checks.join(PageFiles.page(2, 5, 1, 0, 2), PageFiles.page(4, 6, 1, 1, 3));
    private static final byte[] TWO_CLUSTERS = Checks.join(ElementFiles.HEAD,
            ElementFiles.segment(ElementFiles.TRACKS, ElementFiles.CLUSTER,
                    ElementFiles.cluster(ElementFiles.BLOCK, ElementFiles.BLOCK)));

    public static void main(String[] args) {
        wrongAheadOfReading();
        wrongOfOthers();
        wrongWithoutFault();
        wrongOfLatest();
        wrongOfRefused();
        turnOfNothing();
        turnInPlaceOfAll();
        turnLeavesOut();
        counts();
        countsAheadOfReading();
        countsByOwnReading();
        countsBehindFault();
        countOfOthers();
        sizes();
        times();
        octets();
        octetsOfOthers();
        outs();
        patches();
        patchesOfNothing();
        Checks.end(9, 10, 11, 12, 13, 14, 15, 16);
    }

    private static StreamRemuxer withRead(byte[] pages, byte[] elements) {
        StreamRemuxer x = new StreamRemuxer();
        x.readPages(Checks.load(x, pages));
        x.readElements(Checks.load(x, elements));
        return x;
    }

    private static StreamRemuxer withThreePackets() {
        StreamRemuxer x = new StreamRemuxer();
        Checks.addPacket(x, Checks.bytes("FF 00 80"), 4);
        x.packet(0, -1);
        Checks.addPacket(x, Checks.bytes("09 7F"), 6);
        return x;
    }

    private static void wrongIs(String what, StreamRemuxer x, int fault, int place) {
        Checks.due(what + ": wrong(0)", x.wrong(0), fault);
        Checks.due(what + ": wrong(1)", x.wrong(1), place);
    }

    private static void wrongAheadOfReading() {
        Checks.of(9, "0, NONE ahead of one.");
        wrongIs("new", new StreamRemuxer(), 0, -1);
        StreamRemuxer x = new StreamRemuxer();
        x.readPages(1);
        x.readElements(-1);
        x.pages(1, 1, 1);
        wrongIs("refused readings alone", x, 0, -1);
    }

    private static void wrongOfOthers() {
        Checks.of(9, "NONE for others");
        StreamRemuxer x = new StreamRemuxer();
        int[] others = {-1, 2, 3, MIN, MAX, 256};
        for (int what : others) {
            Checks.due("new: wrong(" + what + ")", x.wrong(what), -1);
        }
        x.readElements(0);
        for (int what : others) {
            Checks.due("behind a FAULT: wrong(" + what + ")", x.wrong(what), -1);
        }
    }

    private static void wrongWithoutFault() {
        Checks.of(9, "what 0 its FAULT (0 none), 1 its place (NONE without)");
        StreamRemuxer x = new StreamRemuxer();
        x.readPages(Checks.load(x, Checks.join(TWO_PAGES, new byte[1])));
        wrongIs("a byte behind pages", x, 1, TWO_PAGES.length);
        x.readPages(Checks.load(x, TWO_PAGES));
        wrongIs("pages without a FAULT", x, 0, -1);
        x.readElements(Checks.load(x, Checks.join(TWO_CLUSTERS, new byte[1])));
        wrongIs("a byte behind elements", x, 2, TWO_CLUSTERS.length);
        x.readElements(Checks.load(x, TWO_CLUSTERS));
        wrongIs("elements without a FAULT", x, 0, -1);
    }

    private static void wrongOfLatest() {
        Checks.of(9, "Of the latest readPages(), readElements() that was not -2");
        StreamRemuxer x = new StreamRemuxer();
        x.readPages(0);
        wrongIs("readPages(0)", x, 1, 0);
        x.readElements(0);
        wrongIs("readElements(0)", x, 7, 0);
        x.readPages(Checks.load(x, TWO_PAGES));
        wrongIs("pages behind a FAULT of elements", x, 0, -1);
        x.readElements(Checks.load(x, new byte[1]));
        wrongIs("a FAULT behind pages", x, 2, 0);
        x.clear();
        x.packet(0, 0);
        x.pages(1, 1, 1);
        x.turn();
        x.sum(0);
        wrongIs("other calls change nothing", x, 2, 0);
    }

    private static void wrongOfRefused() {
        StreamRemuxer x = new StreamRemuxer();
        x.readElements(0);
        int[] lengths = {-1, 1, MIN, MAX};
        for (int n : lengths) {
            Checks.due("readPages(" + n + ")", x.readPages(n), -2);
            Checks.due("readElements(" + n + ")", x.readElements(n), -2);
            wrongIs("behind refused ones", x, 7, 0);
        }
    }

    private static void turnOfNothing() {
        Checks.of(10, "OUT comes on the tape in place of what was there: how many bytes.");
        StreamRemuxer x = new StreamRemuxer();
        Checks.due("an empty OUT", x.turn(), 0);
        Checks.load(x, Checks.ramp(40, 0));
        Checks.due("an empty OUT in place of 40 bytes", x.turn(), 0);
        Checks.due("count(3)", x.count(3), 0);
        Checks.due("patch(0, 1)", x.patch(0, 1), false);
    }

    private static void turnInPlaceOfAll() {
        StreamRemuxer x = new StreamRemuxer();
        Checks.addPacket(x, Checks.ramp(20, 3), 0);
        int length = x.pages(1, 1, 1);
        String out = Checks.out(x);
        int[] before = {0, 20, 40, 60, 6000};
        for (int n : before) {
            Checks.load(x, Checks.ramp(n, 0));
            Checks.due("turn() in place of " + n, x.turn(), length);
            Checks.due("count(3)", x.count(3), length);
            Checks.due("nothing is behind it", x.patch(length, 1), false);
            Checks.due("tape", Checks.tape(x), out);
        }
        x.turn();
        Checks.due("feed behind it", x.feed(0x01020304, 0, 0, 0, 5), length + 20);
        Checks.due("tape", Checks.tape(x), out + "0102030400000000000000000000000000000005");
    }

    private static void turnLeavesOut() {
        StreamRemuxer x = new StreamRemuxer();
        Checks.addPacket(x, Checks.ramp(20, 3), 9);
        x.elements(0, 1, 1, false);
        String before = Checks.out(x);
        int length = x.turn();
        Checks.due("a change of the tape", x.patch(0, 1) && x.patch(length - 1, 1), true);
        Checks.due("OUT stays", Checks.out(x), before);
        Checks.due("LIST stays", Checks.list(x), "9:" + Checks.hex(Checks.ramp(20, 3)));
        Checks.due("turn() again", x.turn(), length);
        Checks.due("what is read of it", x.readElements(length), 1);
    }

    private static void counts() {
        Checks.of(11, "How many 0 PACKETS, 1 bytes of them all, 2 bytes of OUT, 3 bytes on the tape");
        StreamRemuxer x = withThreePackets();
        Checks.due("OUT", x.pages(1, 20, 255), 28 + 3 + 29 + 2);
        Checks.load(x, Checks.ramp(40, 0));
        int[] want = {3, 5, 62, 40};
        for (int what = 0; what < want.length; what++) {
            Checks.due("count(" + what + ")", x.count(what), want[what]);
        }
        x.clear();
        Checks.due("count(0) behind clear()", x.count(0), 0);
        Checks.due("count(1) behind clear()", x.count(1), 0);
        x.packet(0, 0);
        Checks.due("count(0) of an empty packet", x.count(0), 1);
        Checks.due("count(1) of an empty packet", x.count(1), 0);
    }

    private static void countsAre(String what, StreamRemuxer x, int pages, int clusters, int blocks) {
        Checks.due(what + ": count(4)", x.count(4), pages);
        Checks.due(what + ": count(5)", x.count(5), clusters);
        Checks.due(what + ": count(6)", x.count(6), blocks);
    }

    private static void countsAheadOfReading() {
        Checks.of(11, "(0 ahead of one, and behind a FAULT; each by its own reading)");
        StreamRemuxer x = withThreePackets();
        x.elements(0, 1, 1, false);
        x.turn();
        countsAre("ahead of a reading", x, 0, 0, 0);
        x.readPages(-1);
        x.readElements(6000);
        countsAre("behind refused ones", x, 0, 0, 0);
    }

    private static void countsByOwnReading() {
        StreamRemuxer x = new StreamRemuxer();
        x.readPages(Checks.load(x, TWO_PAGES));
        countsAre("pages alone", x, 2, 0, 0);
        x.readElements(Checks.load(x, TWO_CLUSTERS));
        countsAre("elements, too", x, 2, 2, 3);
        x.readPages(Checks.load(x, PageFiles.page(6, -1, 1, 0)));
        countsAre("a page without a packet", x, 1, 2, 3);
        x.readElements(Checks.load(x, Checks.join(ElementFiles.HEAD, ElementFiles.segment(ElementFiles.TRACKS))));
        countsAre("no CLUSTER", x, 1, 0, 0);
        StreamRemuxer y = withRead(TWO_PAGES, TWO_CLUSTERS);
        y.clear();
        y.packet(0, 1);
        y.pages(1, 1, 1);
        y.readPages(1);
        y.readElements(1);
        countsAre("other calls and refused ones", y, 2, 2, 3);
    }

    private static void countsBehindFault() {
        StreamRemuxer x = withRead(TWO_PAGES, TWO_CLUSTERS);
        x.readPages(Checks.load(x, Checks.join(TWO_PAGES, new byte[1])));
        countsAre("a FAULT of pages", x, 0, 2, 3);
        StreamRemuxer y = withRead(TWO_PAGES, TWO_CLUSTERS);
        y.readElements(Checks.load(y, Checks.join(TWO_CLUSTERS, new byte[1])));
        countsAre("a FAULT of elements", y, 2, 0, 0);
    }

    private static void countOfOthers() {
        Checks.of(11, "NONE for others.");
        StreamRemuxer x = withRead(TWO_PAGES, TWO_CLUSTERS);
        int[] others = {-1, 7, 8, MIN, MAX, 256};
        for (int what : others) {
            Checks.due("count(" + what + ")", x.count(what), -1);
        }
    }

    private static void sizes() {
        Checks.of(12, "The bytes of PACKET i; NONE: there is none.");
        StreamRemuxer x = withThreePackets();
        Checks.due("size(0)", x.size(0), 3);
        Checks.due("size(1), of an empty one", x.size(1), 0);
        Checks.due("size(2)", x.size(2), 2);
        int[] others = {-1, 3, 63, 64, 65, MIN, MAX};
        for (int i : others) {
            Checks.due("size(" + i + ")", x.size(i), -1);
        }
        x.clear();
        Checks.due("size(0) of none", x.size(0), -1);
    }

    private static void times() {
        Checks.of(13, "The TIME of PACKET i (NONE, also where there is none).");
        StreamRemuxer x = withThreePackets();
        Checks.due("time(0)", x.time(0), 4);
        Checks.due("time(1), without one", x.time(1), -1);
        Checks.due("time(2)", x.time(2), 6);
        int[] others = {-1, 3, 63, 64, 65, MIN, MAX};
        for (int i : others) {
            Checks.due("time(" + i + ")", x.time(i), -1);
        }
        x.clear();
        Checks.due("time(0) of none", x.time(0), -1);
    }

    private static void octets() {
        Checks.of(14, "Byte k of PACKET i; NONE: there is none.");
        StreamRemuxer x = withThreePackets();
        Checks.due("octet(0, 0)", x.octet(0, 0), 255);
        Checks.due("octet(0, 1)", x.octet(0, 1), 0);
        Checks.due("octet(0, 2)", x.octet(0, 2), 128);
        Checks.due("octet(2, 0)", x.octet(2, 0), 9);
        Checks.due("octet(2, 1)", x.octet(2, 1), 127);
        Checks.due("octet(0, 3), not the next one's", x.octet(0, 3), -1);
        Checks.due("octet(1, 0), of an empty one", x.octet(1, 0), -1);
        Checks.due("octet(2, -1), not that of one ahead", x.octet(2, -1), -1);
        Checks.due("octet(2, 2)", x.octet(2, 2), -1);
    }

    private static void octetsOfOthers() {
        StreamRemuxer x = withThreePackets();
        int[] others = {-1, 3, 64, 2400, MIN, MAX};
        for (int i : others) {
            Checks.due("octet(" + i + ", 0)", x.octet(i, 0), -1);
            Checks.due("octet(" + i + ", -1)", x.octet(i, -1), -1);
            Checks.due("octet(0, " + i + ")", x.octet(0, i), -1);
            Checks.due("octet(2, " + i + ")", x.octet(2, i), -1);
        }
        x.clear();
        Checks.due("octet(0, 0) of none", x.octet(0, 0), -1);
    }

    private static void outs() {
        Checks.of(15, "Byte k of OUT; NONE: there is none.");
        StreamRemuxer x = withThreePackets();
        Checks.due("out(0) of none", x.out(0), -1);
        int length = x.pages(-1, 1, 255);
        Checks.due("out(0)", x.out(0), 'O');
        Checks.due("out(14), 255 of SERIAL", x.out(14), 255);
        Checks.due("its last byte", x.out(length - 1), 0x7F);
        int[] others = {-1, length, length + 1, 6000, 6001, MIN, MAX};
        for (int k : others) {
            Checks.due("out(" + k + ")", x.out(k), -1);
        }
        x.clear();
        x.packet(0, 0);
        Checks.due("a shorter OUT", x.pages(1, 1, 1), 28);
        Checks.due("nothing is behind it", x.out(28), -1);
    }

    private static void patches() {
        Checks.of(16, "Byte k of the tape becomes v (its lowest 8 bits): true");
        StreamRemuxer x = new StreamRemuxer();
        Checks.load(x, Checks.ramp(20, 0));
        int[][] changes = {{0, 0x1FE}, {1, 0}, {3, -1}, {4, MIN}, {6, MAX}, {7, 256}, {18, -256}, {19, 5}};
        byte[] want = Checks.ramp(20, 0);
        for (int[] change : changes) {
            Checks.due("patch(" + change[0] + ", " + change[1] + ")", x.patch(change[0], change[1]), true);
            want[change[0]] = (byte) change[1];
        }
        Checks.due("the tape's length", x.count(3), 20);
        Checks.due("tape", Checks.tape(x), Checks.hex(want));
    }

    private static void patchesOfNothing() {
        Checks.of(16, "false: there is none.");
        StreamRemuxer x = new StreamRemuxer();
        Checks.due("patch(0, 1) of none", x.patch(0, 1), false);
        Checks.load(x, Checks.ramp(20, 0));
        int[] others = {-1, 20, 21, 5999, 6000, 6001, MIN, MAX};
        for (int k : others) {
            Checks.due("patch(" + k + ", 1)", x.patch(k, 1), false);
        }
        Checks.due("the tape's length", x.count(3), 20);
        x.feed(0, 0, 0, 0, 0);
        Checks.due("tape", Checks.tape(x), Checks.hex(Checks.ramp(20, 0)) + "00".repeat(20));
        Checks.due("behind a packet the tape is empty", x.patch(0, 1), false);
        Checks.load(x, new byte[6000]);
        Checks.due("patch(5999, 1) of a full one", x.patch(5999, 1), true);
        Checks.due("patch(6000, 1) of a full one", x.patch(6000, 1), false);
    }
}
