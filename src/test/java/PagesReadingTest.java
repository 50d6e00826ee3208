import java.util.Arrays;

/** Promise 7: pages read, each FAULT and its place. */
public final class PagesReadingTest extends PageFiles {
    private static final int[] NINE = {255, 255, 255, 255, 255, 255, 255, 255, 255};
    private static final int[] BYTES_BEHIND = {0x00, 0x4F, 0xFF};

    public static void main(String[] args) {
        reading();
        readingOverPages();
        refused();
        firstBytesAlone();
        shortHeader();
        shortBody();
        noPage();
        mark();
        form();
        sum();
        behindLast();
        firstPage();
        otherPages();
        openOrNot();
        timeWhereOneEnds();
        timeWhereNoneEnds();
        manyPackets();
        manyBytes();
        fileEnd();
        firstFaultOfPage();
        firstPageWithFault();
        readingAgain();
        fullTape();
        Checks.end(7);
    }

    /** What stands on the tape behind the file must not count. */
    private static void readsWith(String what, int fault, int place, byte[]... pages) {
        for (int behind : BYTES_BEHIND) {
            StreamRemuxer x = new StreamRemuxer();
            x.packet(0, 77);
            x.pages(3, 1, 1);
            String out = Checks.out(x);
            byte[] file = Checks.join(pages);
            byte[] tail = new byte[40];
            Arrays.fill(tail, (byte) behind);
            Checks.load(x, Checks.join(file, tail), behind);
            Checks.due(what + ": readPages", x.readPages(file.length), -1);
            Checks.due(what + ": state", Checks.state(x),
                    "counts 1 0 28 0 0 0 0, wrong " + fault + " " + place + ", LIST 77:, OUT " + out);
        }
    }

    private static StreamRemuxer reads(String what, int packets, byte[]... pages) {
        StreamRemuxer x = new StreamRemuxer();
        x.packet(0, 77);
        int n = Checks.load(x, Checks.join(pages));
        Checks.due(what + ": readPages", x.readPages(n), packets);
        Checks.due(what + ": FAULT", x.wrong(0), 0);
        Checks.due(what + ": place", x.wrong(1), -1);
        Checks.due(what + ": pages", x.count(4), pages.length);
        Checks.due(what + ": PACKETS", x.count(0), packets);
        Checks.due(what + ": tape", x.count(3), 0);
        return x;
    }

    private static void reading() {
        Checks.of(7, "The last packet that ends in a page has its TIME, others NONE.");
        StreamRemuxer x = reads("one page", 3, page(6, 5, 1, 0, 2, 0, 1));
        Checks.due("LIST", Checks.list(x), "-1:0007 -1: 5:0E");
        x = reads("two pages", 4, page(2, 5, 1, 0, 1, 1), page(4, 6, 1, 1, 0, 1));
        Checks.due("LIST", Checks.list(x), "-1:00 5:07 -1: 6:01");
        x = reads("an open one behind it", 2, page(2, 5, 1, 0, 0, 255), page(5, 6, 1, 1, 0));
        Checks.due("time(0)", x.time(0), 5);
        Checks.due("time(1)", x.time(1), 6);
        x = reads("no packet", 0, page(6, -1, 1, 0));
        Checks.due("LIST", Checks.list(x), "");
        reads("FLAG 4 on a page without segments", 1, page(2, 5, 1, 0, 2), page(4, -1, 1, 1));
    }

    private static void readingOverPages() {
        Checks.of(7, "A packet is SEGMENTS of 255 and a last one of less (0, too), over as many pages as it takes.");
        StreamRemuxer x = reads("255 and 0", 2, page(6, 3, 1, 0, 255, 0, 1));
        Checks.due("LIST", Checks.list(x), "-1:" + Checks.hex(Checks.ramp(255, 0)) + " 3:F9");
        x = reads("254", 1, page(6, 3, 1, 0, 254));
        Checks.due("size(0)", x.size(0), 254);
        x = reads("over three pages", 2, page(2, -1, 1, 0, 255), page(1, -1, 1, 1), page(5, 3, 1, 2, 0, 1));
        Checks.due("LIST", Checks.list(x), "-1:" + Checks.hex(Checks.ramp(255, 0)) + " 3:02");
        x = reads("parts on each page", 1, page(2, -1, 1, 0, 255), page(1, -1, 1, 1, 255), page(5, 3, 1, 2, 254));
        Checks.due("LIST", Checks.list(x), "3:" + Checks.hex(Checks.ramp(255, 0)) + Checks.hex(Checks.ramp(255, 1))
                + Checks.hex(Checks.ramp(254, 2)));
        x = reads("2,400 bytes", 1, page(2, -1, 1, 0, NINE), page(5, 3, 1, 1, 105));
        Checks.due("size(0)", x.size(0), 2400);
    }

    private static void refused() {
        Checks.of(7, "-2, doing nothing: n is below 0 or more than there are.");
        StreamRemuxer x = reads("two pages", 2, page(2, 5, 1, 0, 2), page(4, 6, 1, 1, 2));
        Checks.due("of an empty tape", x.readPages(1), -2);
        byte[] file = page(6, 7, 1, 0, 12);
        Checks.load(x, file);
        String before = Checks.state(x);
        int[] lengths = {-1, 41, MIN, MAX, 6000};
        for (int n : lengths) {
            Checks.due("readPages(" + n + ")", x.readPages(n), -2);
            Checks.due("state", Checks.state(x), before);
        }
        Checks.due("the tape stays", x.readPages(40), 1);
    }

    private static void firstBytesAlone() {
        Checks.of(7, "The first n bytes of the tape (which is empty then) are read as pages");
        byte[] file = page(6, 5, 1, 0, 2, 3);
        StreamRemuxer x = new StreamRemuxer();
        Checks.load(x, Checks.join(file, file));
        Checks.due("less than the tape has", x.readPages(file.length), 2);
        Checks.due("the tape is empty", x.count(3), 0);
        Checks.load(x, file);
        Checks.due("readPages(0)", x.readPages(0), -1);
        Checks.due("the tape is empty", x.count(3), 0);
        Checks.due("LIST stays", Checks.list(x), "-1:0007 5:0E151C");
    }

    private static void shortHeader() {
        Checks.of(7, "1 SHORT: less than 27 bytes are left");
        byte[] whole = page(6, 5, 1, 0, 2, 3);
        for (int n = 1; n < 27; n++) {
            readsWith("cut to " + n, 1, 0, Arrays.copyOf(whole, n));
            readsWith("26 bytes and less behind a page", 1, whole.length, whole, Arrays.copyOf(whole, n));
            readsWith("zeros behind a page", 1, whole.length, whole, new byte[n]);
        }
    }

    private static void shortBody() {
        Checks.of(7, "or (behind 2, 3) the page goes beyond the end");
        byte[] whole = page(6, 5, 1, 0, 2, 3);
        for (int n = 27; n < whole.length; n++) {
            readsWith("cut to " + n, 1, 0, Arrays.copyOf(whole, n));
        }
        byte[] first = page(2, 5, 1, 0, 2);
        byte[] second = page(4, 5, 1, 1, 1);
        readsWith("the second one's last byte", 1, first.length, first, Arrays.copyOf(second, second.length - 1));
        readsWith("the second one's table", 1, first.length, first, Arrays.copyOf(second, 27));
        readsWith("MARK ahead of it", 2, 0, changed(Arrays.copyOf(whole, 29), 0, 0));
        readsWith("version ahead of it", 3, 0, changed(Arrays.copyOf(whole, 29), 4, 1));
        readsWith("FLAGS ahead of it", 3, 0, changed(Arrays.copyOf(whole, 29), 5, 8));
        byte[] open = page(2, -1, 1, 0, new int[255]);
        readsWith("255 segments, one is missing", 1, 0, Arrays.copyOf(open, 281));
    }

    private static void noPage() {
        Checks.of(7, "there is no page at all");
        readsWith("no byte", 1, 0);
        StreamRemuxer x = new StreamRemuxer();
        Checks.due("of an empty tape", x.readPages(0), -1);
        Checks.due("FAULT", x.wrong(0), 1);
        Checks.due("place", x.wrong(1), 0);
    }

    private static void mark() {
        Checks.of(7, "2 MARK: not OggS.");
        byte[] first = page(2, 5, 1, 0, 2);
        for (int k = 0; k < 4; k++) {
            byte[] other = page(4, 5, 1, 1, 2);
            readsWith("byte " + k, 2, 0, changed(first, k, first[k] ^ 0x20));
            readsWith("byte " + k + " of page 1", 2, first.length, first, changed(other, k, 0));
        }
        readsWith("27 zeros", 2, 0, new byte[27]);
    }

    private static void form() {
        Checks.of(7, "3 FORM: the byte behind it is not 0, FLAGS above 7.");
        byte[] first = page(2, 5, 1, 0, 2);
        byte[] last = page(4, 5, 1, 1, 2);
        int[] octets = {1, 128, 255};
        for (int octet : octets) {
            readsWith("version " + octet, 3, 0, changed(first, 4, octet));
            readsWith("version " + octet, 3, first.length, first, changed(last, 4, octet));
        }
        int[] flags = {8, 14, 16, 128, 255};
        for (int octet : flags) {
            readsWith("FLAGS " + octet, 3, 0, changed(first, 5, octet));
            readsWith("FLAGS " + octet, 3, first.length, first, changed(last, 5, octet));
        }
        readsWith("FLAGS 7 are none of FORM", 6, 0, page(7, 5, 1, 0, 2));
    }

    private static void sum() {
        Checks.of(7, "4 SUM.");
        byte[] whole = page(6, 5, 1, 0, 2, 3);
        for (int k = 6; k < whole.length; k++) {
            if (k < 26 || k > 28) {
                for (int bit = 1; bit < 256; bit <<= 1) {
                    byte[] other = whole.clone();
                    other[k] ^= (byte) bit;
                    readsWith("byte " + k + ", bit " + bit, 4, 0, other);
                }
            }
        }
        byte[] flags = whole.clone();
        flags[5] = 2;
        readsWith("FLAGS", 4, 0, flags);
        byte[] sizes = whole.clone();
        sizes[27] = 3;
        sizes[28] = 2;
        readsWith("sizes", 4, 0, sizes);
        byte[] second = page(4, 5, 1, 1, 2);
        second[25] ^= 1;
        readsWith("page 1", 4, 30, page(2, 5, 1, 0, 2), second);
    }

    private static void behindLast() {
        Checks.of(7, "5 ORDER: a page behind a last one");
        byte[] first = page(2, 5, 1, 0, 2);
        byte[] last = page(4, 5, 1, 1, 2);
        int at = first.length + last.length;
        readsWith("a page more", 5, at, first, last, page(0, 5, 1, 2, 2));
        readsWith("a last one again", 5, at, first, last, page(4, 5, 1, 2, 2));
        readsWith("another stream", 5, 30, page(6, 5, 1, 0, 2), page(6, 5, 2, 0, 2));
        readsWith("behind a last one that is open", 5, 283, page(6, -1, 1, 0, 255), page(5, 5, 1, 1, 2));
    }

    private static void firstPage() {
        Checks.of(7, "of the first page FLAG 2 is missing or its number isn't 0");
        readsWith("FLAGS 4", 5, 0, page(4, 5, 1, 0, 2));
        readsWith("FLAGS 0", 5, 0, page(0, 5, 1, 0, 2));
        readsWith("FLAGS 1", 5, 0, page(1, 5, 1, 0, 2));
        int[] numbers = {1, -1, 256, 0x10000, 0x1000000, MIN};
        for (int number : numbers) {
            readsWith("number " + number, 5, 0, page(6, 5, 1, number, 2));
        }
    }

    private static void otherPages() {
        Checks.of(7, "of others FLAG 2, another SERIAL than the first one's, "
                + "or a number that isn't 1 more (in 32 bits)");
        byte[] first = page(2, 5, 1, 0, 2);
        byte[] second = page(0, 5, 1, 1, 2);
        int at = first.length;
        readsWith("FLAG 2", 5, at, first, page(6, 5, 1, 1, 2));
        readsWith("FLAG 2, number 0", 5, at, first, page(6, 5, 1, 0, 2));
        int[] serials = {0, 2, -1, 0x101, 0x10001, 0x01000001};
        for (int serial : serials) {
            readsWith("SERIAL " + serial, 5, at, first, page(4, 5, serial, 1, 2));
            readsWith("SERIAL " + serial, 5, 2 * at, first, second, page(4, 5, serial, 2, 2));
        }
        int[] numbers = {0, 2, -1, 0x101, 0x10001, 0x01000001, MIN};
        for (int number : numbers) {
            readsWith("number " + number, 5, at, first, page(4, 5, 1, number, 2));
        }
        readsWith("number 1 again", 5, 2 * at, first, second, page(4, 5, 1, 1, 2));
        int[] any = {0, -1, MIN, MAX};
        for (int serial : any) {
            reads("SERIAL " + serial, 2, page(2, 5, serial, 0, 2), page(4, 5, serial, 1, 2));
        }
    }

    private static void openOrNot() {
        Checks.of(7, "6 PACKET: FLAG 1 though no packet is open, or not though one is.");
        byte[] open = page(2, -1, 1, 0, 255);
        int at = open.length;
        readsWith("none is open on the first page", 6, 0, page(7, 5, 1, 0, 2));
        readsWith("none is open", 6, 30, page(2, 5, 1, 0, 2), page(5, 5, 1, 1, 2));
        readsWith("none is open behind 255 and 0", 6, 284, page(2, 5, 1, 0, 255, 0), page(5, 5, 1, 1, 2));
        readsWith("none is open, no segment", 6, 30, page(2, 5, 1, 0, 2), page(5, -1, 1, 1));
        readsWith("one is open", 6, at, open, page(4, 5, 1, 1, 2));
        readsWith("one is open, no segment", 6, at, open, page(4, -1, 1, 1));
        readsWith("one is open behind a page without segments", 6, at + 27, open, page(1, -1, 1, 1),
                page(4, 5, 1, 2, 2));
        readsWith("one is open behind one that ended", 6, 286, page(2, 5, 1, 0, 2, 255), page(4, 5, 1, 1, 2));
    }

    private static void timeWhereOneEnds() {
        Checks.of(7, "7 TIME: NONE, below 0, above what a TIME may be, or below that of the last page that had one, "
                + "if a packet ends in it");
        long[] wrong = {-1, -2, Long.MIN_VALUE, LAST_TIME + 1, Long.MAX_VALUE, 1L << 62, -LAST_TIME};
        for (long time : wrong) {
            readsWith("TIME " + time, 7, 0, page(6, time, 1, 0, 2));
            readsWith("TIME " + time + ", one is open, too", 7, 0, page(6, time, 1, 0, 2, 255));
        }
        byte[] first = page(2, 5, 1, 0, 2);
        readsWith("below page 0's", 7, 30, first, page(4, 4, 1, 1, 2));
        readsWith("0 behind 5", 7, 30, first, page(4, 0, 1, 1, 2));
        readsWith("below the last that had one", 7, 57, first, page(0, -1, 1, 1), page(4, 4, 1, 2, 2));
        readsWith("below the last, not the first", 7, 60, first, page(0, 9, 1, 1, 2), page(4, 8, 1, 2, 2));
        reads("0", 1, page(6, 0, 1, 0, 2));
        reads("the last TIME, twice", 2, page(2, LAST_TIME, 1, 0, 2), page(4, LAST_TIME, 1, 1, 2));
        reads("the same behind one without", 2, first, page(0, -1, 1, 1), page(4, 5, 1, 2, 2));
    }

    private static void timeWhereNoneEnds() {
        Checks.of(7, "not NONE, if none does");
        long[] wrong = {0, 5, -2, LAST_TIME, Long.MAX_VALUE, Long.MIN_VALUE, 0xFFFFFFFFL};
        for (long time : wrong) {
            readsWith("TIME " + time + ", open", 7, 0, page(6, time, 1, 0, 255));
            readsWith("TIME " + time + ", no segment", 7, 0, page(6, time, 1, 0));
        }
        reads("NONE", 1, page(2, -1, 1, 0, 255), page(5, 3, 1, 1, 0));
    }

    private static void manyPackets() {
        Checks.of(7, "8 MANY: more PACKETS or bytes (with the open one's) than the LIST may have.");
        reads("64 packets", 64, page(6, 5, 1, 0, new int[64]));
        readsWith("65 packets", 8, 0, page(6, 5, 1, 0, new int[65]));
        readsWith("255 packets", 8, 0, page(6, 5, 1, 0, new int[255]));
        byte[] full = page(2, 5, 1, 0, new int[64]);
        reads("no packet more", 64, full, page(4, -1, 1, 1));
        readsWith("packet 65 on the next page", 8, full.length, full, page(4, 5, 1, 1, 0));
        byte[] opened = page(0, -1, 1, 1, 255);
        readsWith("packet 65 ends", 8, full.length + opened.length, full, opened, page(5, 5, 1, 2, 0));
        byte[] most = page(2, 5, 1, 0, new int[63]);
        reads("packet 64 over two pages", 64, most, opened, page(5, 5, 1, 2, 0));
    }

    private static void manyBytes() {
        reads("2,400 bytes", 1, page(6, 5, 1, 0, 255, 255, 255, 255, 255, 255, 255, 255, 255, 105));
        readsWith("2,401 bytes", 8, 0, page(6, 5, 1, 0, 255, 255, 255, 255, 255, 255, 255, 255, 255, 106));
        byte[] open = page(2, -1, 1, 0, NINE);
        reads("105 more", 1, open, page(5, 5, 1, 1, 105));
        readsWith("106 more", 8, open.length, open, page(5, 5, 1, 1, 106));
        readsWith("an open one's bytes", 8, open.length, open, page(1, -1, 1, 1, 255));
        readsWith("2,550 bytes of an open one", 8, 0,
                page(2, -1, 1, 0, 255, 255, 255, 255, 255, 255, 255, 255, 255, 255));
        byte[] two = page(2, 5, 1, 0, 100, 6);
        readsWith("with those of packets ahead", 8, two.length, two, page(4, -1, 1, 1, NINE));
        byte[] less = page(2, 5, 1, 0, 100, 5);
        reads("just as many", 3, less, page(0, -1, 1, 1, NINE), page(5, 5, 1, 2, 0));
    }

    private static void fileEnd() {
        Checks.of(7, "Behind all pages, at the file's end: 5, the last page has no FLAG 4; else 6, a packet is open.");
        readsWith("no FLAG 4", 5, 30, page(2, 5, 1, 0, 2));
        readsWith("no FLAG 4, two pages", 5, 60, page(2, 5, 1, 0, 2), page(0, 5, 1, 1, 2));
        readsWith("no FLAG 4, and open", 5, 283, page(2, -1, 1, 0, 255));
        readsWith("open", 6, 283, page(6, -1, 1, 0, 255));
        readsWith("open behind one", 6, 285, page(6, 5, 1, 0, 1, 255));
        readsWith("open, no segment on the last", 6, 283 + 27, page(2, -1, 1, 0, 255), page(5, -1, 1, 1));
    }

    private static void firstFaultOfPage() {
        Checks.of(7, "of one page the first told here");
        byte[] made = page(15, -1, 1, 3, 2);
        made[22] ^= 1;
        byte[] noMark = made.clone();
        noMark[0] = 0;
        readsWith("SHORT ahead of MARK", 1, 0, Arrays.copyOf(noMark, 26));
        readsWith("MARK ahead of FORM", 2, 0, noMark);
        readsWith("MARK ahead of SHORT by its bytes", 2, 0, Arrays.copyOf(noMark, 29));
        readsWith("FORM ahead of SUM", 3, 0, made);
        readsWith("FORM ahead of SHORT by its bytes", 3, 0, Arrays.copyOf(made, 29));
        byte[] bad = page(5, -1, 1, 3, 2);
        bad[22] ^= 1;
        readsWith("SHORT by its bytes ahead of SUM", 1, 0, Arrays.copyOf(bad, 29));
        readsWith("SUM ahead of ORDER", 4, 0, bad);
        fixSum(bad);
        readsWith("ORDER ahead of PACKET", 5, 0, bad);
        readsWith("PACKET ahead of TIME", 6, 0, page(7, -1, 1, 0, 2));
        readsWith("TIME ahead of MANY", 7, 0, page(6, -1, 1, 0, new int[65]));
        readsWith("MANY ahead of the file's end", 8, 0, page(2, 5, 1, 0, new int[65]));
    }

    private static void firstPageWithFault() {
        Checks.of(7, "the FAULT of the first page that has one");
        readsWith("TIME ahead of page 1's MARK", 7, 0, page(2, -1, 1, 0, 2), new byte[27]);
        readsWith("MANY ahead of page 1's SHORT", 8, 0, page(2, 5, 1, 0, new int[65]), new byte[1]);
        readsWith("page 1's ORDER ahead of page 2's SUM", 5, 30,
                page(2, 5, 1, 0, 2), page(0, 5, 1, 2, 2), new byte[27]);
        readsWith("page 1's SHORT ahead of a missing FLAG 4", 1, 30, page(2, 5, 1, 0, 2), new byte[26]);
    }

    /** Nothing of an earlier reading counts in a later one, with a FAULT or without. */
    private static void readingAgain() {
        Checks.of(7, "the LIST becomes their PACKETS: how many");
        byte[] good = Checks.join(page(2, 5, 9, 0, 1), page(4, 6, 9, 1, 2));
        byte[][] earlier = {
            good, new byte[27], page(6, -1, 1, 0, 255), page(2, LAST_TIME, 1, 0, 2, 255), page(6, LAST_TIME, 1, 0, 2),
            Checks.join(page(2, 5, 1, 0, new int[64]), page(4, 5, 1, 1, 0)), page(6, 5, 1, 0, 255, 0, 255, 7),
            Checks.join(page(2, -1, 1, 0, NINE), page(1, -1, 1, 1, 255)), new byte[0],
        };
        for (byte[] one : earlier) {
            StreamRemuxer x = new StreamRemuxer();
            for (int times = 0; times < 3; times++) {
                x.readPages(Checks.load(x, one));
                Checks.due("readPages", x.readPages(Checks.load(x, good)), 2);
                Checks.due("LIST", Checks.list(x), "5:00 6:0108");
                Checks.due("count(4)", x.count(4), 2);
                Checks.due("count(1)", x.count(1), 3);
                Checks.due("FAULT", x.wrong(0), 0);
            }
        }
    }

    /** As many pages as a tape can hold. */
    private static void fullTape() {
        byte[][] pages = new byte[222][];
        for (int number = 0; number < pages.length; number++) {
            int flags = (number == 0 ? 2 : 0) | (number == 221 ? 4 : 0);
            pages[number] = page(flags, -1, 1, number);
        }
        reads("222 pages", 0, pages);
        pages[221] = page(4, 5, 1, 221, 1, 2, 0);
        StreamRemuxer x = reads("6,000 bytes", 3, pages);
        Checks.due("a full tape", Checks.join(pages).length, 6000);
        Checks.due("LIST", Checks.list(x), "-1:DD -1:E4EB 5:");
    }
}
