/** Promises 5, 7, 9, 11 and 17: pages written and read, each FAULT and its place, and sums. */
public final class PagesTest {
    private static final long LAST_TIME = (1L << 40) - 1;

    public static void main(String[] args) {
        writing();
        writingOverPages();
        writingFlagsAndTimes();
        writingRefused();
        reading();
        shortFaults();
        formFaults();
        orderFaults();
        packetFaults();
        timeFaults();
        manyFaults();
        orderOfFaults();
        stateOfReading();
        sums();
        Checks.end();
    }

    /** The SUM, bit by bit as the document tells it. */
    private static int sumOf(byte[] page) {
        int r = 0;
        for (int k = 0; k < page.length; k++) {
            r ^= (k >= 22 && k < 26 ? 0 : page[k] & 255) << 24;
            for (int bit = 0; bit < 8; bit++) {
                r = r << 1 ^ (r < 0 ? 0x04C11DB7 : 0);
            }
        }
        return r;
    }

    private static byte[] little(long number, int width) {
        byte[] made = new byte[width];
        for (int k = 0; k < width; k++) {
            made[k] = (byte) (number >>> (8 * k));
        }
        return made;
    }

    private static void fixSum(byte[] page) {
        System.arraycopy(little(sumOf(page), 4), 0, page, 22, 4);
    }

    private static byte[] page(int flags, long time, int serial, int number, int... segments) {
        byte[] table = new byte[segments.length];
        int total = 0;
        for (int i = 0; i < segments.length; i++) {
            table[i] = (byte) segments[i];
            total += segments[i];
        }
        byte[] made = Checks.join(Checks.bytes("'OggS' 00"), little(flags, 1), little(time, 8),
                little(serial, 4), little(number, 4), new byte[4], little(segments.length, 1), table,
                Checks.ramp(total, number));
        fixSum(made);
        return made;
    }

    private static void readsWith(String what, int fault, int place, byte[]... pages) {
        StreamRemuxer x = new StreamRemuxer();
        x.packet(0, 77);
        int n = Checks.load(x, Checks.join(pages));
        Checks.due(what + ": readPages", x.readPages(n), -1);
        Checks.due(what + ": FAULT", x.wrong(0), fault);
        Checks.due(what + ": place", x.wrong(1), place);
        Checks.due(what + ": pages", x.count(4), 0);
        Checks.due(what + ": tape", x.count(3), 0);
        Checks.due(what + ": LIST", Checks.list(x), "77:");
    }

    private static StreamRemuxer reads(String what, int packets, byte[]... pages) {
        StreamRemuxer x = new StreamRemuxer();
        x.packet(0, 77);
        int n = Checks.load(x, Checks.join(pages));
        Checks.due(what + ": readPages", x.readPages(n), packets);
        Checks.due(what + ": FAULT", x.wrong(0), 0);
        Checks.due(what + ": place", x.wrong(1), -1);
        Checks.due(what + ": pages", x.count(4), pages.length);
        Checks.due(what + ": PACKETS", x.count(0), packets);
        Checks.due(what + ": tape", x.count(3), 0);
        return x;
    }

    private static void writes(StreamRemuxer x, int serial, int p, int s, byte[]... pages) {
        String what = "pages(" + serial + ", " + p + ", " + s + ")";
        byte[] want = Checks.join(pages);
        Checks.due(what, x.pages(serial, p, s), want.length);
        Checks.due("count(2) behind " + what, x.count(2), want.length);
        Checks.due("OUT of " + what, Checks.out(x), Checks.hex(want));
    }

    /** Packets whose bytes go on as those of page() do. */
    private static StreamRemuxer withPackets(int first, int[] sizes, long[] times) {
        StreamRemuxer x = new StreamRemuxer();
        int at = first;
        for (int i = 0; i < sizes.length; i++) {
            Checks.addPacket(x, Checks.ramp(sizes[i], at), times[i]);
            at += 7 * sizes[i];
        }
        return x;
    }

    private static void writing() {
        StreamRemuxer x = withPackets(0, new int[] {4}, new long[] {9});
        writes(x, 0x01020304, 1, 1, page(6, 9, 0x01020304, 0, 4));
        writes(x, -1, 20, 255, page(6, 9, -1, 0, 4));
        StreamRemuxer y = withPackets(0, new int[] {0}, new long[] {-1});
        writes(y, 0, 1, 1, page(6, 0, 0, 0, 0));
        StreamRemuxer z = withPackets(0, new int[] {255}, new long[] {LAST_TIME});
        writes(z, Integer.MIN_VALUE, 1, 255, page(6, LAST_TIME, Integer.MIN_VALUE, 0, 255, 0));
    }

    private static void writingOverPages() {
        StreamRemuxer x = withPackets(0, new int[] {0, 0, 0, 0}, new long[] {1, 2, 3, 4});
        writes(x, 5, 20, 255, page(2, 1, 5, 0, 0), page(4, 4, 5, 1, 0, 0, 0));
        writes(x, 5, 2, 255, page(2, 1, 5, 0, 0), page(0, 3, 5, 1, 0, 0), page(4, 4, 5, 2, 0));
        writes(x, 5, 20, 2, page(2, 1, 5, 0, 0), page(0, 3, 5, 1, 0, 0), page(4, 4, 5, 2, 0));
        writes(x, 5, 1, 255, page(2, 1, 5, 0, 0), page(0, 2, 5, 1, 0), page(0, 3, 5, 2, 0), page(4, 4, 5, 3, 0));
    }

    private static void writingFlagsAndTimes() {
        StreamRemuxer x = new StreamRemuxer();
        byte[] octets = Checks.ramp(510, 0);
        Checks.addPacket(x, octets, 8);
        Checks.due("pages(1, 1, 1)", x.pages(1, 1, 1), 3 * 28 + 510);
        int second = 28 + 255;
        int third = second + 28 + 255;
        Checks.due("FLAGS of page 0", x.out(5), 2);
        Checks.due("FLAGS of page 1", x.out(second + 5), 1);
        Checks.due("FLAGS of page 2", x.out(third + 5), 5);
        for (int k = 6; k < 14; k++) {
            Checks.due("TIME of page 0", x.out(k), 255);
            Checks.due("TIME of page 1", x.out(second + k), 255);
            Checks.due("TIME of page 2", x.out(third + k), k == 6 ? 8 : 0);
        }
        StreamRemuxer y = withPackets(0, new int[] {0, 0, 0}, new long[] {6, -1, -1});
        writes(y, 0, 2, 9, page(2, 6, 0, 0, 0), page(4, 6, 0, 1, 0, 0));
        StreamRemuxer z = withPackets(0, new int[] {0, 0, 0}, new long[] {-1, -1, 0});
        writes(z, 0, 1, 9, page(2, 0, 0, 0, 0), page(0, 0, 0, 1, 0), page(4, 0, 0, 2, 0));
    }

    private static void writingRefused() {
        StreamRemuxer x = new StreamRemuxer();
        Checks.due("an empty LIST", x.pages(1, 1, 1), -1);
        Checks.due("an empty LIST, and p wrong", x.pages(1, 0, 1), -2);
        x.packet(0, 5);
        x.packet(0, -1);
        x.packet(0, 5);
        Checks.due("the same TIME", x.pages(1, 1, 1), 84);
        String before = Checks.out(x);
        int[] wrongPackets = {0, 21, -1, Integer.MIN_VALUE, Integer.MAX_VALUE};
        for (int p : wrongPackets) {
            Checks.due("p " + p, x.pages(1, p, 1), -2);
        }
        int[] wrongSegments = {0, 256, -1, Integer.MIN_VALUE, Integer.MAX_VALUE};
        for (int s : wrongSegments) {
            Checks.due("s " + s, x.pages(1, 1, s), -2);
        }
        x.packet(0, -1);
        x.packet(0, 4);
        Checks.due("a TIME below one ahead", x.pages(1, 1, 1), -1);
        Checks.due("OUT stays", Checks.out(x), before);
        x.clear();
        x.packet(0, 5);
        x.packet(0, 4);
        Checks.due("a TIME below the first", x.pages(1, 1, 1), -1);
        x.clear();
        Checks.due("the LIST is empty again", x.pages(1, 1, 1), -1);
        Checks.due("OUT stays", Checks.out(x), before);
    }

    private static void reading() {
        StreamRemuxer x = reads("one page", 3, page(6, 5, 1, 0, 2, 0, 1));
        Checks.due("LIST", Checks.list(x), "-1:0007 -1: 5:0E");
        reads("no packet", 0, page(6, -1, 1, 0));
        reads("FLAG 4 on a page of its own", 1, page(2, 5, 1, 0, 2), page(4, -1, 1, 1));
        StreamRemuxer y = reads("over three pages", 2, page(2, -1, 1, 0, 255), page(1, -1, 1, 1),
                page(5, 3, 1, 2, 0, 1));
        Checks.due("size(0)", y.size(0), 255);
        Checks.due("time(0)", y.time(0), -1);
        Checks.due("octet(0, 254)", y.octet(0, 254), 7 * 254 & 255);
        Checks.due("size(1)", y.size(1), 1);
        Checks.due("time(1)", y.time(1), 3);
        reads("the last TIME, twice", 2, page(2, LAST_TIME, 1, 0, 2), page(4, LAST_TIME, 1, 1, 2));
    }

    private static void shortFaults() {
        byte[] whole = page(6, 5, 1, 0, 2, 3);
        readsWith("no page", 1, 0);
        readsWith("26 bytes", 1, 0, Checks.join(Checks.bytes("'OggS'"), new byte[22]));
        for (int n = 1; n < whole.length; n++) {
            readsWith("cut to " + n, 1, 0, java.util.Arrays.copyOf(whole, n));
        }
        readsWith("a byte behind it", 1, whole.length, whole, new byte[1]);
        StreamRemuxer x = new StreamRemuxer();
        Checks.load(x, whole);
        int[] lengths = {-1, 41, Integer.MIN_VALUE, Integer.MAX_VALUE};
        for (int n : lengths) {
            Checks.due("readPages(" + n + ")", x.readPages(n), -2);
        }
        Checks.due("the tape stays", x.count(3), 40);
        Checks.due("no reading yet", x.wrong(0), 0);
        Checks.due("less than the tape has", x.readPages(whole.length), 2);
    }

    private static void formFaults() {
        byte[] first = page(2, 5, 1, 0, 2);
        for (int k = 0; k < 4; k++) {
            byte[] other = page(4, 5, 1, 1, 2);
            other[k] ^= 1;
            fixSum(other);
            readsWith("MARK " + k, 2, first.length, first, other);
        }
        byte[] version = page(6, 5, 1, 0, 2);
        version[4] = 1;
        fixSum(version);
        readsWith("another version", 3, 0, version);
        readsWith("FLAGS 8", 3, 0, page(8, 5, 1, 0, 2));
        readsWith("FLAGS 255", 3, 0, page(255, 5, 1, 0, 2));
        for (int k = 5; k < 30; k++) {
            byte[] other = page(6, 5, 1, 0, 2);
            if (k != 5 && k != 26 && k != 27) {
                other[k] ^= 64;
                readsWith("SUM, byte " + k, 4, 0, other);
            }
        }
    }

    private static void orderFaults() {
        byte[] first = page(2, 5, 1, 0, 2);
        byte[] last = page(4, 5, 1, 1, 2);
        int at = first.length;
        readsWith("behind the last", 5, at + last.length, first, last, page(0, 5, 1, 2, 2));
        readsWith("FLAG 2 missing", 5, 0, page(4, 5, 1, 0, 2));
        readsWith("first number 1", 5, 0, page(6, 5, 1, 1, 2));
        readsWith("FLAG 2 again", 5, at, first, page(6, 5, 1, 1, 2));
        readsWith("another SERIAL", 5, at, first, page(4, 5, 0x01000001, 1, 2));
        readsWith("number again", 5, at, first, page(4, 5, 1, 0, 2));
        readsWith("number left out", 5, at, first, page(4, 5, 1, 2, 2));
        readsWith("no FLAG 4", 5, at, first);
        readsWith("no FLAG 4, and open", 5, at + 253, page(2, -1, 1, 0, 255));
    }

    private static void packetFaults() {
        byte[] open = page(2, -1, 1, 0, 255);
        readsWith("none is open, first page", 6, 0, page(7, 5, 1, 0, 2));
        readsWith("none is open", 6, 30, page(2, 5, 1, 0, 2), page(5, 5, 1, 1, 2));
        readsWith("one is open", 6, open.length, open, page(4, 5, 1, 1, 2));
        readsWith("one is open, no segment", 6, open.length, open, page(4, -1, 1, 1));
        readsWith("open at the end", 6, 28 + 255, page(6, -1, 1, 0, 255));
        readsWith("open behind one", 6, 30 + 255, page(6, 5, 1, 0, 1, 255), new byte[0]);
    }

    private static void timeFaults() {
        readsWith("NONE", 7, 0, page(6, -1, 1, 0, 2));
        readsWith("below 0", 7, 0, page(6, -2, 1, 0, 2));
        readsWith("lowest", 7, 0, page(6, Long.MIN_VALUE, 1, 0, 2));
        readsWith("above", 7, 0, page(6, LAST_TIME + 1, 1, 0, 2));
        readsWith("highest", 7, 0, page(6, Long.MAX_VALUE, 1, 0, 2));
        readsWith("none ends", 7, 0, page(6, 0, 1, 0, 255));
        readsWith("no segment", 7, 0, page(6, 0, 1, 0));
        byte[] first = page(2, 5, 1, 0, 2);
        readsWith("below the one ahead", 7, first.length, first, page(4, 4, 1, 1, 2));
        byte[] between = page(0, -1, 1, 1);
        readsWith("below the last that had one", 7, first.length + between.length, first, between,
                page(4, 4, 1, 2, 2));
    }

    private static void manyFaults() {
        int[] empty = new int[65];
        readsWith("65 packets", 8, 0, page(6, 5, 1, 0, empty));
        reads("64 packets", 64, page(6, 5, 1, 0, java.util.Arrays.copyOf(empty, 64)));
        byte[] full = page(2, 5, 1, 0, java.util.Arrays.copyOf(empty, 64));
        readsWith("packet 65 on the next page", 8, full.length, full, page(4, 5, 1, 1, 0));
        byte[] opened = page(0, -1, 1, 1, 255);
        readsWith("packet 65 is open at first", 8, full.length + opened.length, full, opened, page(5, 5, 1, 2, 0));
        int[] most = {255, 255, 255, 255, 255, 255, 255, 255, 255, 105};
        reads("2,400 bytes", 1, page(6, 5, 1, 0, most));
        int[] more = {255, 255, 255, 255, 255, 255, 255, 255, 255, 106};
        readsWith("2,401 bytes", 8, 0, page(6, 5, 1, 0, more));
        int[] open = {255, 255, 255, 255, 255, 255, 255, 255, 255};
        byte[] first = page(2, -1, 1, 0, open);
        readsWith("the open one's bytes", 8, first.length, first, page(1, -1, 1, 1, 255));
        byte[] two = page(2, 5, 1, 0, more[9], 100);
        readsWith("with those ahead", 8, two.length, two, page(4, -1, 1, 1, open));
    }

    /** Of a page with several FAULTS the first told counts. */
    private static void orderOfFaults() {
        byte[] made = page(15, -1, 1, 3, 2);
        made[22] ^= 1;
        byte[] noMark = made.clone();
        noMark[0] = 0;
        readsWith("SHORT ahead of MARK", 1, 0, java.util.Arrays.copyOf(noMark, 26));
        readsWith("MARK ahead of FORM", 2, 0, noMark);
        readsWith("MARK ahead of SHORT by its bytes", 2, 0, java.util.Arrays.copyOf(noMark, 29));
        readsWith("FORM ahead of SUM", 3, 0, made);
        readsWith("FORM ahead of SHORT by its bytes", 3, 0, java.util.Arrays.copyOf(made, 29));
        byte[] bad = page(5, -1, 1, 3, 2);
        bad[22] ^= 1;
        readsWith("SHORT by its bytes ahead of SUM", 1, 0, java.util.Arrays.copyOf(bad, 29));
        readsWith("SUM ahead of ORDER", 4, 0, bad);
        fixSum(bad);
        readsWith("ORDER ahead of PACKET", 5, 0, bad);
        readsWith("PACKET ahead of TIME", 6, 0, page(7, -1, 1, 0, 2));
        readsWith("TIME ahead of MANY", 7, 0, page(6, -1, 1, 0, new int[65]));
    }

    private static void stateOfReading() {
        StreamRemuxer x = reads("two pages", 2, page(2, 5, 1, 0, 2), page(4, 6, 1, 1, 2));
        Checks.due("readPages(1) of nothing", x.readPages(1), -2);
        Checks.due("pages stay", x.count(4), 2);
        Checks.due("clear()", x.clear(), 2);
        Checks.due("pages stay behind clear()", x.count(4), 2);
        Checks.due("readElements(0)", x.readElements(0), -1);
        Checks.due("pages stay behind the other reading", x.count(4), 2);
        Checks.due("FAULT of the latest", x.wrong(0), 7);
        Checks.due("readPages(0)", x.readPages(0), -1);
        Checks.due("pages behind a FAULT", x.count(4), 0);
        Checks.due("FAULT of the latest", x.wrong(0), 1);
        Checks.due("readElements(-1)", x.readElements(-1), -2);
        Checks.due("FAULT stays", x.wrong(0), 1);
    }

    private static void sums() {
        StreamRemuxer x = new StreamRemuxer();
        byte[] first = page(2, 5, 1, 0, 2);
        byte[] last = page(4, 6, 1, 1, 255, 3);
        int n = Checks.load(x, Checks.join(first, last));
        x.patch(first.length + 40, 9);
        x.patch(23, 9);
        Checks.due("sum(0)", x.sum(0), true);
        Checks.due("sum of page 1", x.sum(first.length), true);
        int[] others = {-1, 1, 29, 31, n, n - 1, 6000, Integer.MIN_VALUE, Integer.MAX_VALUE};
        for (int k : others) {
            Checks.due("sum(" + k + ")", x.sum(k), false);
        }
        Checks.due("read behind it", x.readPages(n), 2);
        byte[] cut = Checks.join(new byte[10], page(9, 5, 1, 0, 4, 6));
        Checks.load(x, java.util.Arrays.copyOf(cut, 40));
        Checks.due("not all there", x.sum(10), false);
        Checks.due("table there, bytes not", x.patch(36, 1), true);
        Checks.due("one byte is missing", x.patch(37, 3) && x.sum(10), false);
        Checks.due("just all there", x.patch(37, 2) && x.sum(10), true);
        x.clear();
        x.packet(40, 0);
        byte[] want = java.util.Arrays.copyOf(cut, 40);
        want[36] = 1;
        want[37] = 2;
        byte[] page = java.util.Arrays.copyOfRange(want, 10, 40);
        fixSum(page);
        System.arraycopy(page, 0, want, 10, 30);
        Checks.due("other bytes stay", Checks.list(x), "0:" + Checks.hex(want));
        Checks.load(x, Checks.join(Checks.bytes("'OggS'"), new byte[16]));
        Checks.due("20 bytes", x.sum(0), false);
    }
}
