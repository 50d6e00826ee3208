import java.util.Arrays;

/** Promise 5: the LIST as pages. */
public final class PagesWritingTest extends PageFiles {
    public static void main(String[] args) {
        emptyList();
        timeBelowOneAhead();
        timesThatMayStand();
        longestFile();
        packetsRefused();
        segmentsRefused();
        refusalComesFirst();
        packetsAndSegmentsAtTheirBounds();
        replacesOut();
        numbersLowestFirst();
        lastSegments();
        packetOverPages();
        endsBySegments();
        endsByPackets();
        endsBehindFirstPacket();
        timeOfLastThatEnds();
        timeOfNone();
        flags();
        pageNumbers();
        Checks.end(5);
    }

    /** Packets of bytes that are all 0. */
    private static StreamRemuxer withSizes(int... sizes) {
        StreamRemuxer x = new StreamRemuxer();
        for (int i = 0; i < sizes.length; i++) {
            Checks.addPacket(x, new byte[sizes[i]], i + 1);
        }
        return x;
    }

    /** Empty packets. */
    private static StreamRemuxer withTimes(long... times) {
        StreamRemuxer x = new StreamRemuxer();
        for (long time : times) {
            x.packet(0, time);
        }
        return x;
    }

    private static void writes(StreamRemuxer x, int serial, int p, int s, byte[]... pages) {
        String what = "pages(" + serial + ", " + p + ", " + s + ")";
        byte[] want = Checks.join(pages);
        String list = Checks.list(x);
        Checks.due(what, x.pages(serial, p, s), want.length);
        Checks.due("count(2) behind " + what, x.count(2), want.length);
        Checks.due("OUT of " + what, Checks.out(x), Checks.hex(want));
        Checks.due("LIST behind " + what, Checks.list(x), list);
    }

    /** What the pages of OUT have: FLAGS, TIME and SEGMENTS of each. */
    private static String told(StreamRemuxer x) {
        StringBuilder made = new StringBuilder();
        int at = 0;
        while (at < x.count(2)) {
            long time = 0;
            for (int k = 7; k >= 0; k--) {
                time = time << 8 | x.out(at + 6 + k);
            }
            made.append(at > 0 ? " | " : "").append(x.out(at + 5)).append(" t").append(time);
            int segments = x.out(at + 26);
            int next = at + 27 + segments;
            for (int i = 0; i < segments; i++) {
                made.append(' ').append(x.out(at + 27 + i));
                next += x.out(at + 27 + i);
            }
            at = next;
        }
        return made.toString();
    }

    private static void tells(StreamRemuxer x, int p, int s, String want) {
        x.pages(1, p, s);
        Checks.due("pages(1, " + p + ", " + s + ")", told(x), want);
    }

    private static void staysRefused(StreamRemuxer x, int p, int s, int want) {
        String before = Checks.state(x);
        Checks.due("pages(1, " + p + ", " + s + ")", x.pages(1, p, s), want);
        Checks.due("state", Checks.state(x), before);
    }

    private static void emptyList() {
        Checks.of(5, "NONE, OUT stays: the LIST is empty");
        StreamRemuxer x = new StreamRemuxer();
        staysRefused(x, 1, 1, -1);
        x.packet(0, 0);
        x.pages(1, 1, 1);
        x.clear();
        staysRefused(x, 20, 255, -1);
        Checks.due("OUT", x.count(2), 28);
    }

    private static void timeBelowOneAhead() {
        Checks.of(5, "a TIME is below one ahead");
        long[][] lists = {{5, 4}, {5, -1, 4}, {5, 0}, {1, 2, 3, 2}, {3, 5, 4}, {5, 6, -1, -1, 5, 6}, {5, 3, 4},
            {-1, 1, 0}, {LAST_TIME, LAST_TIME - 1}, {0x100000000L, 0xFFFFFFFFL}, {5, 4, 9}, {1, -1, 0, -1}};
        for (long[] times : lists) {
            StreamRemuxer x = withTimes(0);
            x.pages(9, 1, 1);
            x.clear();
            for (long time : times) {
                x.packet(0, time);
            }
            staysRefused(x, 1, 1, -1);
            staysRefused(x, 20, 255, -1);
        }
    }

    private static void timesThatMayStand() {
        long[][] lists = {{5, 5}, {5, -1, 5}, {5, -1}, {-1, 0}, {0, 0, -1, 0}, {LAST_TIME, LAST_TIME}, {-1, -1},
            {0, LAST_TIME}, {3, 4, -1, 4}};
        for (long[] times : lists) {
            Checks.due(Arrays.toString(times), withTimes(times).pages(1, 1, 1), 28 * times.length);
        }
    }

    /** No LIST makes more than 6,000 bytes: this one, a page for each segment, makes the most. */
    private static void longestFile() {
        Checks.of(5, "OUT would have more than 6,000 bytes");
        int[] sizes = new int[64];
        sizes[0] = 9 * 255;
        sizes[1] = 105;
        StreamRemuxer x = withSizes(sizes);
        Checks.due("pages(1, 1, 1)", x.pages(1, 1, 1), 73 * 28 + 2400);
        Checks.due("pages(1, 20, 1)", x.pages(1, 20, 1), 73 * 28 + 2400);
        Checks.due("turn()", x.turn(), 4444);
        Checks.due("readPages(4444)", x.readPages(4444), 64);
        Checks.due("count(4)", x.count(4), 73);
    }

    private static void packetsRefused() {
        Checks.of(5, "-2, doing nothing: p is not 1 to 20");
        StreamRemuxer x = withTimes(5, 6);
        x.elements(0, 1, 1, false);
        int[] wrong = {0, 21, -1, 255, MIN, MAX};
        for (int p : wrong) {
            staysRefused(x, p, 1, -2);
            staysRefused(x, p, 255, -2);
        }
    }

    private static void segmentsRefused() {
        Checks.of(5, "or s not 1 to 255");
        StreamRemuxer x = withTimes(5, 6);
        x.elements(0, 1, 1, false);
        int[] wrong = {0, 256, -1, 257, MIN, MAX};
        for (int s : wrong) {
            staysRefused(x, 1, s, -2);
            staysRefused(x, 20, s, -2);
            staysRefused(x, 0, s, -2);
        }
    }

    private static void refusalComesFirst() {
        StreamRemuxer x = new StreamRemuxer();
        staysRefused(x, 0, 1, -2);
        staysRefused(x, 1, 256, -2);
        StreamRemuxer y = withTimes(5, 4);
        staysRefused(y, 21, 1, -2);
        staysRefused(y, 1, 0, -2);
    }

    private static void packetsAndSegmentsAtTheirBounds() {
        Checks.of(5, "p is not 1 to 20, or s not 1 to 255");
        int[][] bounds = {{1, 1}, {20, 1}, {1, 255}, {20, 255}, {2, 254}, {19, 2}};
        for (int[] b : bounds) {
            Checks.due("pages(1, " + b[0] + ", " + b[1] + ")", withTimes(5).pages(1, b[0], b[1]), 28);
        }
    }

    private static void replacesOut() {
        Checks.of(5, "The LIST as pages, into OUT: its bytes.");
        StreamRemuxer x = withTimes(1, 2, 3);
        writes(x, 5, 1, 1, page(2, 1, 5, 0, 0), page(0, 2, 5, 1, 0), page(4, 3, 5, 2, 0));
        x.clear();
        x.packet(0, 9);
        writes(x, 6, 1, 1, page(6, 9, 6, 0, 0));
        Checks.due("nothing is behind it", x.out(28), -1);
    }

    private static void numbersLowestFirst() {
        Checks.of(5, "Numbers in pages have the lowest byte first");
        StreamRemuxer x = new StreamRemuxer();
        Checks.addPacket(x, Checks.ramp(4, 0), 0x0102030405L);
        int[] serials = {0, 1, -1, 0x01020304, MIN, MAX, 255, 256};
        for (int serial : serials) {
            writes(x, serial, 1, 1, page(6, 0x0102030405L, serial, 0, 4));
        }
        x.pages(0x01020304, 1, 1);
        Checks.due("TIME and SERIAL", Checks.out(x).substring(12, 36), "050403020100000004030201");
        Checks.due("SUM", Checks.out(x).substring(44, 52),
                Checks.hex(little(sumOf(page(6, 0x0102030405L, 0x01020304, 0, 4)), 4)));
    }

    private static void lastSegments() {
        Checks.of(5, "A packet is SEGMENTS of 255 and a last one of less (0, too)");
        tells(withSizes(0), 20, 255, "6 t1 0");
        tells(withSizes(1), 20, 255, "6 t1 1");
        tells(withSizes(254), 20, 255, "6 t1 254");
        tells(withSizes(255), 20, 255, "6 t1 255 0");
        tells(withSizes(256), 20, 255, "6 t1 255 1");
        tells(withSizes(509), 20, 255, "6 t1 255 254");
        tells(withSizes(510), 20, 255, "6 t1 255 255 0");
        tells(withSizes(511), 20, 255, "6 t1 255 255 1");
        tells(withSizes(2295), 20, 255, "6 t1" + " 255".repeat(9) + " 0");
        tells(withSizes(2400), 20, 255, "6 t1" + " 255".repeat(9) + " 105");
    }

    private static void packetOverPages() {
        Checks.of(5, "over as many pages as it takes");
        tells(withSizes(255), 1, 1, "2 t-1 255 | 5 t1 0");
        tells(withSizes(510), 1, 1, "2 t-1 255 | 1 t-1 255 | 5 t1 0");
        tells(withSizes(511), 1, 2, "2 t-1 255 255 | 5 t1 1");
        tells(withSizes(510), 1, 2, "2 t-1 255 255 | 5 t1 0");
        tells(withSizes(510), 1, 3, "6 t1 255 255 0");
        tells(withSizes(0, 600, 1), 20, 2, "2 t1 0 | 0 t-1 255 255 | 5 t3 90 1");
        tells(withSizes(0, 5, 600), 20, 2, "2 t1 0 | 0 t2 5 255 | 5 t3 255 90");
        StreamRemuxer x = new StreamRemuxer();
        Checks.addPacket(x, Checks.ramp(300, 0), 4);
        byte[] octets = Checks.ramp(300, 0);
        writes(x, 3, 1, 1, pageOf(2, -1, 3, 0, Arrays.copyOf(octets, 255), 255),
                pageOf(5, 4, 3, 1, Arrays.copyOfRange(octets, 255, 300), 45));
    }

    private static void endsBySegments() {
        Checks.of(5, "a page ends when it has s SEGMENTS");
        StreamRemuxer x = withSizes(0, 0, 0, 0, 0, 0);
        tells(x, 20, 1, "2 t1 0 | 0 t2 0 | 0 t3 0 | 0 t4 0 | 0 t5 0 | 4 t6 0");
        tells(x, 20, 2, "2 t1 0 | 0 t3 0 0 | 0 t5 0 0 | 4 t6 0");
        tells(x, 20, 4, "2 t1 0 | 0 t5 0 0 0 0 | 4 t6 0");
        tells(x, 20, 5, "2 t1 0 | 4 t6 0 0 0 0 0");
        tells(x, 20, 6, "2 t1 0 | 4 t6 0 0 0 0 0");
    }

    private static void endsByPackets() {
        Checks.of(5, "when p packets ended in it");
        StreamRemuxer x = withSizes(0, 0, 255, 0, 0, 0);
        tells(x, 1, 255, "2 t1 0 | 0 t2 0 | 0 t3 255 0 | 0 t4 0 | 0 t5 0 | 4 t6 0");
        tells(x, 2, 255, "2 t1 0 | 0 t3 0 255 0 | 0 t5 0 0 | 4 t6 0");
        tells(x, 5, 255, "2 t1 0 | 4 t6 0 255 0 0 0 0");
        tells(x, 2, 3, "2 t1 0 | 0 t3 0 255 0 | 0 t5 0 0 | 4 t6 0");
        tells(x, 2, 2, "2 t1 0 | 0 t2 0 255 | 1 t4 0 0 | 4 t6 0 0");
        String twenty = " 0".repeat(20);
        tells(withSizes(new int[64]), 20, 255,
                "2 t1 0 | 0 t21" + twenty + " | 0 t41" + twenty + " | 0 t61" + twenty + " | 4 t64 0 0 0");
    }

    private static void endsBehindFirstPacket() {
        Checks.of(5, "behind the first packet of all, and with the last SEGMENT");
        tells(withSizes(0), 20, 255, "6 t1 0");
        tells(withSizes(0, 0), 20, 255, "2 t1 0 | 4 t2 0");
        tells(withSizes(600, 0, 0), 20, 255, "2 t1 255 255 90 | 4 t3 0 0");
        tells(withSizes(300, 0, 0), 20, 1, "2 t-1 255 | 1 t1 45 | 0 t2 0 | 4 t3 0");
        tells(withSizes(600, 0, 0), 20, 2, "2 t-1 255 255 | 1 t1 90 | 4 t3 0 0");
        tells(withSizes(0, 255), 20, 255, "2 t1 0 | 4 t2 255 0");
    }

    private static void timeOfLastThatEnds() {
        Checks.of(5, "Its TIME: of the last packet that ends in it; NONE if none ends.");
        tells(withSizes(0, 7, 8, 600), 20, 3, "2 t1 0 | 0 t3 7 8 255 | 5 t4 255 90");
        tells(withSizes(0, 2000), 20, 3, "2 t1 0 | 0 t-1 255 255 255 | 1 t-1 255 255 255 | 5 t2 255 215");
        StreamRemuxer x = withTimes(0, LAST_TIME);
        tells(x, 1, 1, "2 t0 0 | 4 t" + LAST_TIME + " 0");
    }

    private static void timeOfNone() {
        Checks.of(5, "is that of the nearest one ahead that has one, 0 if there is none");
        tells(withTimes(-1), 1, 1, "6 t0 0");
        tells(withTimes(-1, -1, 7), 1, 1, "2 t0 0 | 0 t0 0 | 4 t7 0");
        tells(withTimes(6, -1, -1, 8, -1), 1, 1, "2 t6 0 | 0 t6 0 | 0 t6 0 | 0 t8 0 | 4 t8 0");
        tells(withTimes(6, 7, -1), 20, 9, "2 t6 0 | 4 t7 0 0");
        tells(withTimes(6, -1, -1), 20, 9, "2 t6 0 | 4 t6 0 0");
        Checks.due("the LIST's own stays", Checks.list(withTimes(6, -1)), "6: -1:");
    }

    private static void flags() {
        Checks.of(5, "FLAGS: 1 it goes on with a packet, 2 the first page, 4 the last one");
        StreamRemuxer x = withTimes(1, 2, 3);
        writes(x, 5, 20, 255, page(2, 1, 5, 0, 0), page(4, 3, 5, 1, 0, 0));
        StreamRemuxer y = withSizes(255, 254, 255);
        tells(y, 1, 1, "2 t-1 255 | 1 t1 0 | 0 t2 254 | 0 t-1 255 | 5 t3 0");
    }

    private static void pageNumbers() {
        Checks.of(5, "4 bytes the page's number, from 0 on");
        StreamRemuxer x = withSizes(new int[64]);
        x.pages(1, 1, 1);
        for (int number = 0; number < 64; number++) {
            int at = 28 * number + 18;
            Checks.due("number of page " + number, x.out(at), number);
            Checks.due("its other bytes", x.out(at + 1) + x.out(at + 2) + x.out(at + 3), 0);
        }
    }
}
