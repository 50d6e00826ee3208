import java.util.Arrays;

/** Promise 6: the LIST as elements. */
public final class ElementsWritingTest {
    private static final int MIN = Integer.MIN_VALUE;
    private static final int MAX = Integer.MAX_VALUE;
    private static final String HEAD = "1A45DFA3A3 42868101 42F78101 42F28104 42F38108 428288"
            + "6D6174726F736B61 42878104 42858102";
    private static final String INFO = "1549A9668F 2AD7B1830F4240 4D808161 57418161";

    public static void main(String[] args) {
        emptyList();
        refused();
        argumentsAtTheirBounds();
        longestFile();
        replacesOut();
        sizesOfSegmentAndClusters();
        clusterTimeBytes();
        blockSizes();
        onePacketABlock();
        timesOfBlocks();
        timesWithoutOne();
        clustersByBlocks();
        clustersByTime();
        lacedUpToB();
        lacedOfSame();
        lacedBySums();
        lacedByDifferences();
        Checks.end(6);
    }

    /** A whole file with clusters given in hexadecimal. */
    private static String file(boolean unknown, boolean laced, String clusters) {
        String tracks = "1654AE6B97 AE95 D78101 73C58101 838102 9C81" + (laced ? "01" : "00") + "8686 415F4F505553";
        String body = (INFO + tracks + clusters).replace(" ", "");
        String length = unknown ? "FF" : String.format("%08X", 0x10000000 | body.length() / 2);
        return HEAD + "18538067" + length + body;
    }

    private static String cluster(String body) {
        String packed = body.replace(" ", "");
        return "1F43B675" + String.format("%08X", 0x10000000 | packed.length() / 2) + packed;
    }

    private static StreamRemuxer withPackets(String... told) {
        StreamRemuxer x = new StreamRemuxer();
        for (String one : told) {
            int colon = one.indexOf(':');
            Checks.addPacket(x, Checks.bytes(one.substring(colon + 1)), Long.parseLong(one.substring(0, colon)));
        }
        return x;
    }

    /** Packets of bytes that are all 0, without a TIME. */
    private static StreamRemuxer withSizes(int... sizes) {
        StreamRemuxer x = new StreamRemuxer();
        for (int howMany : sizes) {
            Checks.addPacket(x, new byte[howMany], -1);
        }
        return x;
    }

    private static int call(StreamRemuxer x, String arguments) {
        String[] a = arguments.split(" ");
        return x.elements(Integer.parseInt(a[0]), Integer.parseInt(a[1]), Integer.parseInt(a[2]), a[3].equals("u"));
    }

    /** The arguments: lace, b, c, and u if SIZES are UNKNOWN, else k. */
    private static void writes(StreamRemuxer x, String arguments, String want) {
        String due = want.replace(" ", "");
        String list = Checks.list(x);
        Checks.due(arguments, call(x, arguments), due.length() / 2);
        Checks.due(arguments + ": count(2)", x.count(2), due.length() / 2);
        Checks.due(arguments + ": OUT", Checks.out(x), due);
        Checks.due(arguments + ": LIST", Checks.list(x), list);
    }

    /** What stands behind the first E7, which is 0 here. */
    private static void begins(String what, StreamRemuxer x, String arguments, String want) {
        call(x, arguments);
        String out = Checks.out(x);
        int from = out.indexOf("E78100") + 6;
        String due = want.replace(" ", "");
        Checks.due(what, out.substring(from, Math.min(out.length(), from + due.length())), due);
    }

    private static void emptyList() {
        Checks.of(6, "The LIST as elements, into OUT: its bytes (also of an empty one).");
        writes(new StreamRemuxer(), "0 1 1 k", file(false, false, ""));
        writes(new StreamRemuxer(), "0 8 20 u", file(true, false, ""));
        Checks.of(6, "LL is 01 if lacing is told (lace above 0), else 00.");
        for (int lace = 1; lace <= 3; lace++) {
            writes(new StreamRemuxer(), lace + " 1 1 k", file(false, true, ""));
            writes(new StreamRemuxer(), lace + " 8 20 u", file(true, true, ""));
        }
    }

    private static void refused() {
        Checks.of(6, "-2, doing nothing: lace is not 0 to 3, b not 1 to 8, c not 1 to 20.");
        StreamRemuxer x = withPackets("5:AABB");
        x.pages(1, 1, 1);
        x.readElements(0);
        Checks.load(x, new byte[20]);
        String before = Checks.state(x);
        int[][] wrong = {
            {-1, 1, 1}, {4, 1, 1}, {0, 0, 1}, {0, 9, 1}, {0, 1, 0}, {0, 1, 21}, {1, -1, 1}, {1, 1, -1},
            {3, 9, 20}, {3, 8, 21}, {4, 8, 20}, {3, 0, 20}, {3, 8, 0}, {-1, 8, 20}, {4, 9, 21},
            {MIN, 1, 1}, {MAX, 1, 1}, {1, MIN, 1}, {1, MAX, 1}, {1, 1, MIN}, {1, 1, MAX}, {256, 257, 257},
        };
        for (int[] a : wrong) {
            Checks.due(Arrays.toString(a), x.elements(a[0], a[1], a[2], true), -2);
            Checks.due(Arrays.toString(a), x.elements(a[0], a[1], a[2], false), -2);
            Checks.due("state", Checks.state(x), before);
        }
    }

    private static void argumentsAtTheirBounds() {
        String block = "E78105 A386 81000080AABB";
        String[] bounds = {"0 1 1 k", "0 8 1 k", "0 1 20 k", "0 8 20 k", "3 1 1 k", "3 8 20 k", "2 8 1 k", "1 1 20 k"};
        for (String arguments : bounds) {
            writes(withPackets("5:AABB"), arguments, file(false, arguments.charAt(0) != '0', cluster(block)));
        }
        Checks.due("TIMES may go down", withPackets("5:", "4:").elements(0, 1, 1, false) > 0, true);
    }

    /** No LIST makes more than 6,000 bytes: this one, a CLUSTER for each packet, makes the most. */
    private static void longestFile() {
        Checks.of(6, "NONE, OUT stays: it would have more than 6,000");
        StreamRemuxer x = new StreamRemuxer();
        for (int i = 0; i < 64; i++) {
            Checks.addPacket(x, new byte[i < 19 ? 123 : i == 19 ? 63 : 0], (1L << 40) - 65 + i);
        }
        int want = 40 + 8 + 20 + 28 + 64 * (8 + 7 + 6) + 19 + 2400;
        Checks.due("count(1)", x.count(1), 2400);
        Checks.due("elements(0, 1, 1, false)", x.elements(0, 1, 1, false), want);
        Checks.due("turn()", x.turn(), want);
        Checks.due("readElements()", x.readElements(want), 64);
        Checks.due("count(5)", x.count(5), 64);
        Checks.due("count(6)", x.count(6), 64);
    }

    private static void replacesOut() {
        Checks.of(6, "The LIST as elements, into OUT");
        StreamRemuxer x = withPackets("5:AABB");
        writes(x, "0 1 1 k", file(false, false, cluster("E78105 A386 81000080AABB")));
        x.clear();
        writes(x, "0 1 1 u", file(true, false, ""));
        Checks.due("nothing is behind it", x.out(x.count(2)), -1);
    }

    private static void sizesOfSegmentAndClusters() {
        Checks.of(6, "A SIZE of SEGMENT and CLUSTERS has 4 bytes (FF, UNKNOWN, if so told)");
        StreamRemuxer x = withPackets("5:AA", "6:BB", "7:CC");
        String first = "E78105 A385 81000080AA A385 81000180BB";
        String second = "E78107 A385 81000080CC";
        writes(x, "0 1 2 k", file(false, false, cluster(first) + cluster(second)));
        writes(x, "0 1 2 u", file(true, false, "1F43B675FF" + first + "1F43B675FF" + second));
        StreamRemuxer y = new StreamRemuxer();
        Checks.addPacket(y, new byte[2400], 0);
        writes(y, "0 1 1 k", file(false, false, cluster("E78100 A34964 81000080" + "00".repeat(2400))));
    }

    private static void clusterTimeBytes() {
        Checks.of(6, "E7 and its UINT (at least one byte, no 0 ahead of others)");
        String[] times = {"00", "01", "7F", "80", "FF", "0100", "7FFF", "8000", "FFFF", "010000", "FFFFFF", "01000000",
            "7FFFFFFF", "80000000", "FFFFFFFF", "0100000000", "FFFFFFFFFF"};
        for (String time : times) {
            StreamRemuxer x = withPackets(Long.parseLong(time, 16) + ":");
            String length = String.format("%02X", 0x80 | time.length() / 2);
            writes(x, "0 1 1 k", file(false, false, cluster("E7" + length + time + "A384 81000080")));
        }
    }

    private static void blockSizes() {
        Checks.of(6, "others as few as can be (an UNKNOWN one is none)");
        begins("a block of 4", withSizes(0), "0 1 1 k", "A384 81000080");
        begins("a block of 126", withSizes(122), "0 1 1 k", "A3FE 81000080 00");
        begins("a block of 127", withSizes(123), "0 1 1 k", "A3407F 81000080 00");
        begins("a block of 128", withSizes(124), "0 1 1 k", "A34080 81000080 00");
        begins("a block of 2,404", withSizes(2400), "0 1 1 k", "A34964 81000080 00");
        begins("a laced block of 126", withSizes(60, 60), "1 2 1 k", "A3FE 81000082 01 3C 00");
        begins("a laced block of 127", withSizes(60, 61), "1 2 1 k", "A3407F 81000082 01 3C 00");
    }

    private static void onePacketABlock() {
        Checks.of(6, "A block of one packet has LACING 0, else lace; the bit 80 is there, others aren't.");
        StreamRemuxer x = withPackets("5:AABB", "-1:", "7:CC");
        String blocks = "E78105 A386 81000080AABB A384 81000080 A385 81000280CC";
        writes(x, "0 8 20 k", file(false, false, cluster(blocks)));
        writes(x, "0 8 20 u", file(true, false, "1F43B675FF" + blocks));
        for (int lace = 1; lace <= 3; lace++) {
            writes(x, lace + " 1 20 k", file(false, true, cluster(blocks)));
        }
        writes(withPackets("5:AABB"), "3 8 20 k", file(false, true, cluster("E78105 A386 81000080AABB")));
        writes(withPackets("5:AA", "6:BB", "7:CC"), "1 2 20 k",
                file(false, true, cluster("E78105 A388 81000082 01 01 AABB A385 81000280CC")));
    }

    private static void timesOfBlocks() {
        Checks.of(6, "the block's TIME is its first one's");
        StreamRemuxer x = withPackets("9:", "10:", "12:", "50000:", "13:");
        writes(x, "2 2 20 k", file(false, true,
                cluster("E78109 A385 8100008401 A385 8100038401 A384 81000480")));
        writes(x, "2 3 20 k", file(false, true, cluster("E78109 A385 8100008402")
                + cluster("E782C350 A385 8100008401")));
    }

    private static void timesWithoutOne() {
        Checks.of(6, "is that of the nearest one ahead that has one, 0 if there is none");
        writes(withPackets("-1:11"), "0 1 1 k", file(false, false, cluster("E78100 A385 8100008011")));
        writes(withPackets("-1:", "7:", "-1:", "-1:"), "0 1 20 k",
                file(false, false, cluster("E78100 A384 81000080 A384 81000780 A384 81000780 A384 81000780")));
        writes(withPackets("3:", "9:", "-1:", "4:"), "2 2 20 k",
                file(false, true, cluster("E78103 A385 8100008401 A385 8100068401")));
        writes(withPackets("6:", "-1:"), "0 1 1 k",
                file(false, false, cluster("E78106 A384 81000080") + cluster("E78106 A384 81000080")));
    }

    private static void clustersByBlocks() {
        Checks.of(6, "A CLUSTER begins with the first block, and when one has c blocks");
        StreamRemuxer x = withPackets("1:", "2:", "3:", "4:");
        String block = "A384 81000080";
        writes(x, "0 1 1 k", file(false, false, cluster("E78101" + block) + cluster("E78102" + block)
                + cluster("E78103" + block) + cluster("E78104" + block)));
        writes(x, "0 1 3 k", file(false, false,
                cluster("E78101" + block + "A384 81000180 A384 81000280") + cluster("E78104" + block)));
        writes(x, "0 1 4 k", file(false, false,
                cluster("E78101" + block + "A384 81000180 A384 81000280 A384 81000380")));
        writes(x, "2 2 1 k", file(false, true, cluster("E78101 A385 8100008401") + cluster("E78103 A385 8100008401")));
        StreamRemuxer five = withPackets("1:", "2:", "3:", "4:", "5:");
        String two = block + "A384 81000180";
        writes(five, "0 1 2 k", file(false, false, cluster("E78101" + two) + cluster("E78103" + two)
                + cluster("E78105" + block)));
        StreamRemuxer apart = withPackets("1:", "2:", "40000:", "40001:", "40002:");
        writes(apart, "0 1 3 k", file(false, false, cluster("E78101" + two)
                + cluster("E7829C40" + two + "A384 81000280")));
        StreamRemuxer y = withSizes(new int[21]);
        writes(y, "0 8 20 k", file(false, false,
                cluster("E78100" + block.repeat(20)) + cluster("E78100" + block)));
    }

    private static void clustersByTime() {
        Checks.of(6, "or a block's TIME less E7's doesn't fit 16 bits with a sign: its E7 is that block's TIME");
        String begin = "A384 81000080";
        writes(withPackets("0:", "32767:"), "0 1 20 k",
                file(false, false, cluster("E78100" + begin + "A384 817FFF80")));
        writes(withPackets("0:", "32768:"), "0 1 20 k",
                file(false, false, cluster("E78100" + begin) + cluster("E7828000" + begin)));
        writes(withPackets("32768:", "0:"), "0 1 20 k",
                file(false, false, cluster("E7828000" + begin + "A384 81800080")));
        writes(withPackets("32769:", "0:"), "0 1 20 k",
                file(false, false, cluster("E7828001" + begin) + cluster("E78100" + begin)));
        writes(withPackets("5:", "4:"), "0 1 20 k", file(false, false, cluster("E78105" + begin + "A384 81FFFF80")));
        writes(withPackets("0:", "32768:", "0:", "65535:", "32767:", "65536:"), "0 1 20 k", file(false, false,
                cluster("E78100" + begin) + cluster("E7828000" + begin + "A384 81800080 A384 817FFF80 A384 81FFFF80")
                + cluster("E783010000" + begin)));
        writes(withPackets("0:", "1099511627775:", "0:"), "0 1 20 k", file(false, false,
                cluster("E78100" + begin) + cluster("E785FFFFFFFFFF" + begin) + cluster("E78100" + begin)));
        writes(withPackets("0:", "4294967296:"), "0 1 20 k", file(false, false,
                cluster("E78100" + begin) + cluster("E7850100000000" + begin)));
    }

    private static void lacedUpToB() {
        Checks.of(6, "A block takes the next packet, with lace above 0 up to b packets");
        StreamRemuxer x = withPackets("9:01", "10:02", "11:03", "12:04", "13:05", "14:06", "15:07", "16:08", "17:09");
        writes(x, "2 8 20 k", file(false, true,
                cluster("E78109 A38D 81000084 07 0102030405060708 A385 8100088009")));
        writes(x, "1 8 20 k", file(false, true,
                cluster("E78109 A394 81000082 07 01010101010101 0102030405060708 A385 8100088009")));
        writes(x, "3 5 20 k", file(false, true,
                cluster("E78109 A38E 81000086 04 81BFBFBF 0102030405 A38C 81000586 03 81BFBF 06070809")));
        writes(x, "2 1 20 k", file(false, true, cluster("E78109 A385 8100008001 A385 8100018002 A385 8100028003"
                + "A385 8100038004 A385 8100048005 A385 8100058006 A385 8100068007 A385 8100078008 A385 8100088009")));
    }

    private static void lacedOfSame() {
        Checks.of(6, "with lace 2 only while they have as many bytes as its first one");
        StreamRemuxer x = withPackets("0:0102", "1:0304", "2:05", "3:06", "4:07", "5:0809");
        writes(x, "2 8 20 k", file(false, true, cluster(
                "E78100 A389 81000084 01 01020304 A388 81000284 02 050607 A386 810005800809")));
        writes(x, "2 2 20 k", file(false, true, cluster(
                "E78100 A389 81000084 01 01020304 A387 81000284 01 0506 A385 8100048007 A386 810005800809")));
        StreamRemuxer y = withPackets("9:0102", "10:03", "11:", "12:040506");
        writes(y, "2 8 20 k", file(false, true,
                cluster("E78109 A386 810000800102 A385 8100018003 A384 81000280 A387 81000380040506")));
        begins("empty ones", withSizes(0, 0, 0, 1), "2 8 1 k", "A385 81000084 02");
    }

    private static void lacedBySums() {
        Checks.of(6, "1 (02): of each but the last one its size, as bytes 255 and a last one of less, added");
        StreamRemuxer x = withPackets("9:0102", "10:03", "11:", "12:040506");
        writes(x, "1 8 20 k", file(false, true, cluster("E78109 A38E 81000082 03 020100 0102 03 040506")));
        begins("254", withSizes(254, 0), "1 2 1 k", "A34104 81000082 01 FE 00");
        begins("255", withSizes(255, 0), "1 2 1 k", "A34106 81000082 01 FF00 00");
        begins("256", withSizes(256, 0), "1 2 1 k", "A34107 81000082 01 FF01 00");
        begins("509", withSizes(509, 0), "1 2 1 k", "A34204 81000082 01 FFFE 00");
        begins("510", withSizes(510, 0), "1 2 1 k", "A34206 81000082 01 FFFF00 00");
        begins("2,400", withSizes(2400, 0), "1 2 1 k", "A3496F 81000082 01" + "FF".repeat(9) + "69 00");
        begins("eight of 300", withSizes(300, 300, 300, 300, 300, 300, 300, 300), "1 8 1 k",
                "A34973 81000082 07" + "FF2D".repeat(7) + "00");
    }

    private static void lacedByDifferences() {
        Checks.of(6, "Differences have as few bytes as can be.");
        StreamRemuxer x = withPackets("9:0102", "10:03", "11:", "12:040506");
        writes(x, "3 8 20 k", file(false, true, cluster("E78109 A38E 81000086 03 82BEBE 0102 03 040506")));
        writes(x, "3 3 20 k", file(false, true, cluster("E78109 A38A 81000086 02 82BE 0102 03 A387 81000380 040506")));
        begins("first 126", withSizes(126, 0), "3 2 1 k", "A34084 81000086 01 FE 00");
        begins("first 127", withSizes(127, 0), "3 2 1 k", "A34086 81000086 01 407F 00");
        begins("first 2,400", withSizes(2400, 0), "3 2 1 k", "A34967 81000086 01 4960 00");
        begins("difference 0", withSizes(5, 5, 0), "3 8 1 k", "A391 81000086 02 85BF 00");
        begins("difference 63", withSizes(0, 63, 0, 0), "3 8 1 k", "A3C7 81000086 03 80FE80 00");
        begins("difference 64", withSizes(0, 64, 0, 0), "3 8 1 k", "A3CA 81000086 03 80603F5FBF 00");
        begins("difference -63", withSizes(63, 0, 0), "3 8 1 k", "A3C6 81000086 02 BF80 00");
        begins("difference -64", withSizes(64, 0, 0), "3 8 1 k", "A3C8 81000086 02 C05FBF 00");
        begins("difference 2,400", withSizes(0, 2400, 0), "3 8 1 k", "A34968 81000086 02 80695F 00");
        begins("difference -2,400", withSizes(2400, 0, 0), "3 8 1 k", "A34969 81000086 02 4960569F 00");
    }
}
