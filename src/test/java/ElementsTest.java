import java.util.Arrays;

/** Promises 6, 8, 9 and 11: elements written and read, each FAULT and its place. */
public final class ElementsTest {
    private static final byte[] NAME = Checks.bytes("4282 88 'matroska'");
    private static final byte[] HEAD = element("1A45DFA3", NAME);
    private static final byte[] NUMBER = Checks.bytes("D7 81 01");
    private static final byte[] TYPE = Checks.bytes("83 81 02");
    private static final byte[] CODEC = Checks.bytes("86 81 41");
    private static final byte[] TRACK = element("AE", NUMBER, TYPE, CODEC);
    private static final byte[] TRACKS = element("1654AE6B", TRACK);
    private static final byte[] INFO = element("1549A966", Checks.bytes("2AD7B1 81 01"));
    private static final byte[] TIME = Checks.bytes("E7 81 64");
    private static final byte[] BLOCK = Checks.bytes("A3 86 81 0000 80 AABB");
    private static final byte[] CLUSTER = element("1F43B675", TIME, BLOCK);
    private static final int[] BYTES_BEHIND = {0x00, 0x80, 0xEC, 0xFF};
    private static final byte[] VOID = Checks.bytes("EC 82 0505");
    /** Where the first element in SEGMENT stands, if its SIZE has one byte. */
    private static final int IN_SEGMENT = HEAD.length + 5;
    /** Where the first element in a first CLUSTER behind TRACKS stands. */
    private static final int IN_CLUSTER = IN_SEGMENT + TRACKS.length + 5;

    private static final String WRITTEN_HEAD = "1A45DFA3A3 42868101 42F78101 42F28104 42F38108 428288"
            + "6D6174726F736B61 42878104 42858102";
    private static final String WRITTEN_INFO = "1549A9668F 2AD7B1830F4240 4D808161 57418161";

    public static void main(String[] args) {
        writingEmpty();
        writingBlocks();
        writingClusters();
        writingLaces();
        writingSizes();
        writingRefused();
        reading();
        readingUnknownSizes();
        readingLaces();
        shortFaults();
        idFaults();
        idFaultsOfOrder();
        sizeFaults();
        twiceFaults();
        valueFaults();
        blockFaults();
        laceFaults();
        manyFaults();
        missingFaults();
        orderOfFaults();
        stateOfReading();
        Checks.end();
    }

    private static byte[] element(String id, byte[]... parts) {
        byte[] body = Checks.join(parts);
        String size = body.length < 127
                ? String.format("%02X", 0x80 | body.length)
                : String.format("%04X", 0x4000 | body.length);
        return Checks.join(Checks.bytes(id), Checks.bytes(size), body);
    }

    private static byte[] segment(byte[]... parts) {
        return element("18538067", parts);
    }

    private static byte[] cluster(byte[]... parts) {
        return element("1F43B675", Checks.join(TIME, Checks.join(parts)));
    }

    private static StreamRemuxer reads(String what, int packets, byte[]... parts) {
        StreamRemuxer x = new StreamRemuxer();
        x.packet(0, 77);
        int n = Checks.load(x, Checks.join(parts));
        Checks.due(what + ": readElements", x.readElements(n), packets);
        Checks.due(what + ": FAULT", x.wrong(0), 0);
        Checks.due(what + ": place", x.wrong(1), -1);
        Checks.due(what + ": PACKETS", x.count(0), packets);
        Checks.due(what + ": tape", x.count(3), 0);
        return x;
    }

    private static void readsWith(String what, int fault, int place, byte[]... parts) {
        for (int behind : BYTES_BEHIND) {
            byte[] tail = new byte[20];
            Arrays.fill(tail, (byte) behind);
            readsWithTail(what + " (" + behind + " behind)", fault, place, Checks.join(parts), tail);
        }
    }

    /** What stands on the tape behind the file must not count. */
    private static void readsWithTail(String what, int fault, int place, byte[] file, byte[] tail) {
        StreamRemuxer x = new StreamRemuxer();
        x.packet(0, 77);
        Checks.load(x, Checks.join(file, tail));
        Checks.due(what + ": readElements", x.readElements(file.length), -1);
        Checks.due(what + ": FAULT", x.wrong(0), fault);
        Checks.due(what + ": place", x.wrong(1), place);
        Checks.due(what + ": CLUSTERS", x.count(5), 0);
        Checks.due(what + ": blocks", x.count(6), 0);
        Checks.due(what + ": tape", x.count(3), 0);
        Checks.due(what + ": LIST", Checks.list(x), "77:");
    }

    private static void readsBlock(String what, String list, String block) {
        byte[] made = element("A3", Checks.bytes(block));
        StreamRemuxer x = new StreamRemuxer();
        int n = Checks.load(x, Checks.join(HEAD, segment(TRACKS, cluster(made))));
        x.readElements(n);
        Checks.due(what + ": FAULT", x.wrong(0), 0);
        Checks.due(what + ": LIST", Checks.list(x), list);
    }

    private static void blockIsWrong(String what, String id, String block) {
        byte[] made = element(id, Checks.bytes(block));
        byte[] inCluster = id.equals("A1") ? element("A0", made) : made;
        int place = IN_CLUSTER + TIME.length + inCluster.length - made.length;
        readsWith(what, 5, place, HEAD, segment(TRACKS, cluster(inCluster)));
    }

    private static void writes(String what, StreamRemuxer x, String arguments, String want) {
        String[] a = arguments.split(" ");
        String due = want.replace(" ", "");
        int got = x.elements(Integer.parseInt(a[0]), Integer.parseInt(a[1]), Integer.parseInt(a[2]), a[3].equals("u"));
        Checks.due(what, got, due.length() / 2);
        Checks.due(what + ": count(2)", x.count(2), due.length() / 2);
        Checks.due(what + ": OUT", Checks.out(x), due);
    }

    /** A whole file with clusters given in hexadecimal. */
    private static String file(boolean unknown, boolean laced, String clusters) {
        String tracks = "1654AE6B97 AE95 D78101 73C58101 838102 9C81" + (laced ? "01" : "00") + "8686 415F4F505553";
        String body = (WRITTEN_INFO + tracks + clusters).replace(" ", "");
        String size = unknown ? "FF" : String.format("%08X", 0x10000000 | body.length() / 2);
        return WRITTEN_HEAD + "18538067" + size + body;
    }

    private static String longCluster(String body) {
        String packed = body.replace(" ", "");
        return "1F43B675" + String.format("%08X", 0x10000000 | packed.length() / 2) + packed;
    }

    private static StreamRemuxer withPackets(String... told) {
        StreamRemuxer x = new StreamRemuxer();
        for (String one : told) {
            int colon = one.indexOf(':');
            Checks.addPacket(x, Checks.bytes(one.substring(colon + 1)), Long.parseLong(one.substring(0, colon)));
        }
        return x;
    }

    private static StreamRemuxer withSizes(int... sizes) {
        StreamRemuxer x = new StreamRemuxer();
        for (int howMany : sizes) {
            Checks.addPacket(x, new byte[howMany], -1);
        }
        return x;
    }

    private static void writingEmpty() {
        writes("empty", new StreamRemuxer(), "0 1 1 k", file(false, false, ""));
        writes("empty, unknown", new StreamRemuxer(), "0 8 20 u", file(true, false, ""));
        for (int lace = 1; lace <= 3; lace++) {
            writes("empty, laced", new StreamRemuxer(), lace + " 1 1 k", file(false, true, ""));
        }
    }

    private static void writingBlocks() {
        StreamRemuxer x = withPackets("5:AABB", "-1:", "7:CC");
        String blocks = "E78105 A386 81000080AABB A384 81000080 A385 81000280CC";
        writes("three blocks", x, "0 8 20 k", file(false, false, longCluster(blocks)));
        writes("three blocks, unknown", x, "0 8 20 u", file(true, false, "1F43B675FF" + blocks));
        writes("one packet a block", x, "1 1 20 k", file(false, true, longCluster(blocks)));
        StreamRemuxer y = withPackets("-1:11");
        writes("no TIME at all", y, "0 1 1 k", file(false, false, longCluster("E78100 A385 8100008011")));
    }

    private static void writingClusters() {
        StreamRemuxer x = withPackets("5:AA", "6:BB", "7:CC");
        String first = "E78105 A385 81000080AA A385 81000180BB";
        String second = "E78107 A385 81000080CC";
        writes("two blocks each", x, "0 1 2 k", file(false, false, longCluster(first) + longCluster(second)));
        writes("two blocks each, unknown", x, "0 1 2 u",
                file(true, false, "1F43B675FF" + first + "1F43B675FF" + second));
        StreamRemuxer y = withPackets("0:", "32767:", "32768:", "0:", "65535:", "32767:", "32766:");
        writes("TIMES that don't fit", y, "0 1 20 k", file(false, false,
                longCluster("E78100 A384 81000080 A384 817FFF80")
                + longCluster("E7828000 A384 81000080 A384 81800080 A384 817FFF80 A384 81FFFF80 A384 81FFFE80")));
        StreamRemuxer z = withPackets("40000:", "7231:", "1099511627775:", "256:");
        writes("as few bytes as can be", z, "0 1 20 k", file(false, false,
                longCluster("E7829C40 A384 81000080")
                + longCluster("E7821C3F A384 81000080")
                + longCluster("E785FFFFFFFFFF A384 81000080")
                + longCluster("E7820100 A384 81000080")));
    }

    private static void writingLaces() {
        StreamRemuxer x = withPackets("9:0102", "10:03", "11:", "12:040506");
        writes("lace 1", x, "1 8 20 k",
                file(false, true, longCluster("E78109 A38E 81000082 03 020100 0102 03 040506")));
        writes("lace 3", x, "3 8 20 k",
                file(false, true, longCluster("E78109 A38E 81000086 03 82BEBE 0102 03 040506")));
        writes("lace 3, up to 3", x, "3 3 20 k",
                file(false, true, longCluster("E78109 A38A 81000086 02 82BE 0102 03 A387 81000380 040506")));
        writes("lace 2, none the same", x, "2 8 20 k", file(false, true,
                longCluster("E78109 A386 810000800102 A385 8100018003 A384 81000280 A387 81000380040506")));
        StreamRemuxer y = withPackets("0:0102", "1:0304", "2:05", "3:06", "4:07", "5:0809");
        writes("lace 2", y, "2 8 20 k", file(false, true, longCluster(
                "E78100 A389 81000084 01 01020304 A388 81000284 02 050607 A386 810005800809")));
        writes("lace 2, up to 2", y, "2 2 20 k", file(false, true, longCluster(
                "E78100 A389 81000084 01 01020304 A387 81000284 01 0506 A385 8100048007 A386 810005800809")));
    }

    private static void writingSizes() {
        checkStart("lace 1, 254", withSizes(254, 0), "1 2 1 k", "A34104 81000082 01 FE");
        checkStart("lace 1, 255", withSizes(255, 0), "1 2 1 k", "A34106 81000082 01 FF00");
        checkStart("lace 1, 511", withSizes(511, 0), "1 2 1 k", "A34207 81000082 01 FFFF01");
        checkStart("lace 3, 126", withSizes(126, 0), "3 2 1 k", "A34084 81000086 01 FE");
        checkStart("lace 3, 127", withSizes(127, 0), "3 2 1 k", "A34086 81000086 01 407F");
        checkStart("difference 63", withSizes(0, 63, 0, 0), "3 8 1 k", "A3C7 81000086 03 80FE80");
        checkStart("difference 64", withSizes(0, 64, 0, 0), "3 8 1 k", "A3CA 81000086 03 80603F5FBF");
        checkStart("difference -63", withSizes(63, 0, 0), "3 8 1 k", "A3C6 81000086 02 BF80");
        checkStart("difference -64", withSizes(64, 0, 0), "3 8 1 k", "A3C8 81000086 02 C05FBF");
        checkStart("a block of 126", withSizes(122), "0 1 1 k", "A3FE 81000080 00");
        checkStart("a block of 127", withSizes(123), "0 1 1 k", "A3407F 81000080 00");
        checkStart("a block of 2,404", withSizes(2400), "0 1 1 k", "A34964 81000080 00");
    }

    /** What stands behind the first E7, which is 0 here. */
    private static void checkStart(String what, StreamRemuxer x, String arguments, String want) {
        String[] a = arguments.split(" ");
        x.elements(Integer.parseInt(a[0]), Integer.parseInt(a[1]), Integer.parseInt(a[2]), a[3].equals("u"));
        String out = Checks.out(x);
        int from = out.indexOf("E78100") + 6;
        String due = want.replace(" ", "");
        Checks.due(what, out.substring(from, from + due.length()), due);
    }

    private static void writingRefused() {
        StreamRemuxer x = withPackets("5:AABB");
        x.elements(0, 1, 1, false);
        String before = Checks.out(x);
        int[][] wrong = {
            {-1, 1, 1}, {4, 1, 1}, {0, 0, 1}, {0, 9, 1}, {0, 1, 0}, {0, 1, 21}, {1, -1, 1}, {1, 1, -1},
            {Integer.MIN_VALUE, 1, 1}, {Integer.MAX_VALUE, 1, 1}, {1, Integer.MAX_VALUE, 1}, {1, 1, Integer.MAX_VALUE},
        };
        x.packet(0, 0);
        for (int[] a : wrong) {
            Checks.due("elements(" + Arrays.toString(a) + ")", x.elements(a[0], a[1], a[2], true), -2);
        }
        Checks.due("OUT stays", Checks.out(x), before);
        Checks.due("TIMES may go down", x.elements(3, 8, 20, true) > 0, true);
    }

    private static void reading() {
        StreamRemuxer x = reads("least", 0, HEAD, segment(TRACKS));
        Checks.due("CLUSTERS", x.count(5), 0);
        byte[] group = element("A0", Checks.bytes("9B 80"), Checks.bytes("A1 85 4001 FFFF 08"));
        x = reads("all kinds", 3, VOID,
                element("1A45DFA3", Checks.bytes("4285 81 01 4287 82 0004 42F3 81 08 42F2 88 0000000000000004"),
                        VOID, Checks.bytes("42F7 81 01 4286 81 01"), NAME),
                VOID, segment(VOID, element("1654AE6B", VOID,
                        element("AE", CODEC, Checks.bytes("9C 80 73C5 88 3FFFFFFFFFFFFFFF"), VOID, TYPE, NUMBER)),
                        element("1549A966", VOID, Checks.bytes("5741 80 4D80 81 00")),
                        cluster(BLOCK, element("A0", VOID, Checks.bytes("A1 84 81 7FFF 00")), VOID, group),
                        VOID, element("1F43B675", Checks.bytes("E7 80"))), VOID);
        Checks.due("LIST", Checks.list(x), "100:AABB 32867: 99:");
        Checks.due("CLUSTERS", x.count(5), 2);
        Checks.due("blocks", x.count(6), 3);
        readsBlock("bits of A3", "100:11", "81 0000 89 11");
        readsBlock("NUMBER of 8 bytes", "100:11", "0100000000000001 0000 00 11");
        readsBlock("TIME 0", "0:", "81 FF9C 00");
        reads("the last TIME", 1, HEAD, segment(TRACKS, element("1F43B675", Checks.bytes("E7 86 00FFFFFFFFFE"),
                Checks.bytes("A3 84 81 0001 00"))));
        byte[] named = element("1654AE6B", element("AE", Checks.bytes("D7 81 7E"), TYPE, CODEC));
        reads("NUMBER 126", 1, HEAD, segment(named, cluster(Checks.bytes("A3 84 FE 0000 00"))));
        byte[] wide = Checks.bytes("1F43B675 200008 E7 80 A3 84 81 0000 00");
        x = reads("SIZES of more bytes", 1, HEAD, Checks.bytes("18538067 08000000"),
                new byte[] {(byte) (TRACKS.length + wide.length)}, TRACKS, wide);
        Checks.due("LIST", Checks.list(x), "0:");
    }

    private static void readingUnknownSizes() {
        byte[] open = Checks.join(Checks.bytes("1F43B675 FF"), TIME, BLOCK);
        byte[] wide = Checks.join(Checks.bytes("1F43B675 01FFFFFFFFFFFFFF"), TIME, VOID, BLOCK);
        StreamRemuxer x = reads("SEGMENT", 1, HEAD, Checks.bytes("18538067 FF"), TRACKS, CLUSTER, VOID);
        Checks.due("CLUSTERS", x.count(5), 1);
        x = reads("CLUSTERS", 3, HEAD, segment(TRACKS, open, wide, CLUSTER));
        Checks.due("CLUSTERS", x.count(5), 3);
        Checks.due("blocks", x.count(6), 3);
        reads("a VOID behind", 1, HEAD, segment(TRACKS, open), VOID);
        x = reads("both", 3, HEAD, Checks.bytes("18538067 1FFFFFFF"), TRACKS, CLUSTER, open, wide);
        Checks.due("CLUSTERS", x.count(5), 3);
        readsWith("INFO in it", 2, IN_SEGMENT + TRACKS.length + open.length, HEAD, segment(TRACKS, open, INFO));
        readsWith("SEGMENT in it", 2, IN_SEGMENT + TRACKS.length + open.length, HEAD, Checks.bytes("18538067 FF"),
                TRACKS, open, segment(TRACKS));
        readsWith("E7 is missing", 7, IN_SEGMENT + TRACKS.length, HEAD, segment(TRACKS,
                Checks.bytes("1F43B675 FF"), Checks.bytes("1F43B675 00")));
        readsWith("the next one's SIZE", 3, IN_SEGMENT + TRACKS.length + open.length, HEAD, segment(TRACKS, open,
                Checks.bytes("1F43B675 00")));
        readsWith("a CLUSTER in A0 of it", 2, IN_CLUSTER + TIME.length + 2, HEAD, segment(TRACKS,
                Checks.bytes("1F43B675 FF"), TIME, element("A0", CLUSTER)));
        readsWith("a CLUSTER in one of known SIZE", 2, IN_CLUSTER + TIME.length, HEAD,
                segment(TRACKS, cluster(CLUSTER)));
        readsWith("half an ID behind it", 1, IN_SEGMENT + TRACKS.length + open.length, HEAD, segment(TRACKS, open,
                Checks.bytes("1F43")));
    }

    private static void readingLaces() {
        readsBlock("lace 0", "100:0102", "81 0000 80 0102");
        readsBlock("lace 0, empty", "100:", "81 0000 80");
        readsBlock("lace 1", "100:0102 -1: -1:03", "81 0000 02 02 0200 010203");
        readsBlock("lace 1 of one", "100:0102", "81 0000 02 00 0102");
        readsBlock("lace 2", "100:01 -1:02 -1:03", "81 0000 04 02 010203");
        readsBlock("lace 2 of one", "100:0102", "81 0000 04 00 0102");
        readsBlock("lace 2 of empty ones", "100: -1:", "81 0000 04 01");
        readsBlock("lace 3", "100:0102 -1: -1:03 -1:04", "81 0000 06 03 82 BD C0 01020304");
        readsBlock("lace 3 of one", "100:0102", "81 0000 06 00 0102");
        readsBlock("lace 3 of two", "100:01 -1:02", "81 0000 06 01 81 0102");
        readsBlock("wide differences", "100:01 -1:0203 -1:04", "81 0000 06 02 4001 18000000 01020304");
        String many = "FF".repeat(255);
        readsBlock("lace 1 of 255", "100:" + many + " -1:01", "81 0000 02 01 FF00" + many + "01");
    }

    private static void shortFaults() {
        byte[] whole = Checks.join(HEAD, segment(TRACKS, CLUSTER));
        readsWith("HEAD's bytes", 1, 0, Arrays.copyOf(whole, HEAD.length - 1));
        readsWith("HEAD's ID", 1, 0, Arrays.copyOf(whole, 3));
        readsWith("HEAD's SIZE", 1, 0, Arrays.copyOf(whole, 4));
        readsWith("SEGMENT's bytes", 1, HEAD.length, Arrays.copyOf(whole, whole.length - 1));
        readsWith("a SIZE of more bytes", 1, HEAD.length, HEAD, Checks.bytes("18538067 01000000000000"));
        byte[] tooLong = Checks.bytes("1654AE6B 83 AE 82 EC");
        readsWith("beyond that in which it stands", 1, IN_SEGMENT + 5, HEAD, segment(tooLong, VOID));
        readsWith("ID beyond it", 1, IN_SEGMENT + 5, HEAD, segment(Checks.bytes("1654AE6B 81 40"), VOID));
        readsWith("SIZE beyond it", 1, IN_SEGMENT + 5, HEAD, segment(Checks.bytes("1654AE6B 81 AE"), VOID));
        readsWith("SIZE beyond it, 00 behind", 1, IN_SEGMENT + 5, HEAD,
                segment(Checks.bytes("1654AE6B 81 AE")), Checks.bytes("00"));
        readsWith("SIZE beyond it, UNKNOWN by what's behind", 1, IN_SEGMENT + 5, HEAD,
                segment(Checks.bytes("1654AE6B 82 AE 7F")), Checks.bytes("FF"));
        readsWith("VOID behind SEGMENT", 1, IN_SEGMENT + TRACKS.length, HEAD, segment(TRACKS), Checks.bytes("EC"));
        readsWith("the highest SIZE", 1, 0, Checks.bytes("EC 08 7FFFFFFF"));
        StreamRemuxer x = new StreamRemuxer();
        Checks.load(x, VOID);
        int[] lengths = {-1, 21, Integer.MIN_VALUE, Integer.MAX_VALUE};
        for (int n : lengths) {
            Checks.due("readElements(" + n + ")", x.readElements(n), -2);
        }
        Checks.due("the tape stays", x.count(3), 20);
    }

    private static void idFaults() {
        String[] none = {"00", "01", "08", "0F"};
        for (String id : none) {
            readsWith("can't be one: " + id, 2, 0, Checks.bytes(id));
            readsWith("can't be one: " + id, 2, HEAD.length, HEAD, Checks.bytes(id + "80"));
        }
        String[] unknown = {"BF 80", "40EC 80", "2000EC 80", "100000EC 80", "E7 80", "AE 80", "1C53BB6B 80"};
        for (String one : unknown) {
            byte[] made = Checks.bytes(one);
            readsWith("in the file: " + one, 2, HEAD.length, HEAD, made, segment(TRACKS));
            readsWith("in HEAD: " + one, 2, 5, element("1A45DFA3", made, NAME));
            readsWith("in SEGMENT: " + one, 2, IN_SEGMENT, HEAD, segment(made, TRACKS));
            readsWith("in INFO: " + one, 2, IN_SEGMENT + 5, HEAD, segment(element("1549A966", made)));
            if (!one.startsWith("AE")) {
                readsWith("in TRACKS: " + one, 2, IN_SEGMENT + 5, HEAD, segment(element("1654AE6B", made)));
            }
            readsWith("in AE: " + one, 2, IN_SEGMENT + 7, HEAD, segment(element("1654AE6B", element("AE", made))));
            if (!one.startsWith("E7")) {
                readsWith("in CLUSTER: " + one, 2, IN_CLUSTER, HEAD, segment(TRACKS, element("1F43B675", made)));
            }
            readsWith("in A0: " + one, 2, IN_CLUSTER + TIME.length + 2, HEAD,
                    segment(TRACKS, cluster(element("A0", made))));
        }
        readsWith("A1 in CLUSTER", 2, IN_CLUSTER + TIME.length, HEAD,
                segment(TRACKS, cluster(Checks.bytes("A1 84 81000000"))));
        readsWith("A3 in A0", 2, IN_CLUSTER + TIME.length + 2, HEAD, segment(TRACKS, cluster(element("A0", BLOCK))));
    }

    private static void idFaultsOfOrder() {
        readsWith("SEGMENT ahead of HEAD", 2, 0, segment(TRACKS), HEAD);
        readsWith("HEAD behind SEGMENT", 2, IN_SEGMENT + TRACKS.length, HEAD, segment(TRACKS), HEAD);
        readsWith("SEGMENT behind SEGMENT", 2, IN_SEGMENT + TRACKS.length, HEAD, segment(TRACKS), segment(TRACKS));
        int behind = IN_SEGMENT + TRACKS.length + CLUSTER.length;
        readsWith("TRACKS behind a CLUSTER", 2, behind, HEAD, segment(TRACKS, CLUSTER, TRACKS));
        readsWith("INFO behind a CLUSTER", 2, behind, HEAD, segment(TRACKS, CLUSTER, INFO));
        readsWith("a CLUSTER ahead of TRACKS", 2, IN_SEGMENT, HEAD, segment(CLUSTER, TRACKS));
        readsWith("a CLUSTER without TRACKS", 2, IN_SEGMENT + INFO.length, HEAD, segment(INFO, CLUSTER));
        reads("INFO behind TRACKS", 1, HEAD, segment(TRACKS, INFO, CLUSTER));
    }

    private static void sizeFaults() {
        String[] sizes = {"00", "FF", "7FFF", "3FFFFF", "1FFFFFFF", "0FFFFFFFFF", "07FFFFFFFFFF", "03FFFFFFFFFFFF",
            "01FFFFFFFFFFFFFF", "0880000000", "01FFFFFFFFFFFFFE"};
        for (String size : sizes) {
            readsWith("HEAD's SIZE " + size, 3, 0, Checks.bytes("1A45DFA3" + size), NAME);
            readsWith("VOID's SIZE " + size, 3, HEAD.length, HEAD, Checks.bytes("EC" + size), segment(TRACKS));
            readsWith("TRACKS' SIZE " + size, 3, IN_SEGMENT, HEAD, segment(Checks.bytes("1654AE6B" + size), TRACK));
            readsWith("A3's SIZE " + size, 3, IN_CLUSTER + TIME.length, HEAD,
                    segment(TRACKS, cluster(Checks.bytes("A3" + size))));
        }
        readsWith("SEGMENT's SIZE 00", 3, HEAD.length, HEAD, Checks.bytes("18538067 00"));
        readsWith("SEGMENT's SIZE is too high", 3, HEAD.length, HEAD, Checks.bytes("18538067 0880000000"));
        readsWith("CLUSTER's SIZE is too high", 3, IN_SEGMENT + TRACKS.length, HEAD,
                segment(TRACKS, Checks.bytes("1F43B675 0880000000")));
    }

    private static void twiceFaults() {
        readsWith("HEAD", 4, HEAD.length, HEAD, HEAD, segment(TRACKS));
        String[] inHead = {"4286 81 01", "42F7 81 01", "42F2 81 04", "42F3 81 08", "4287 81 04", "4285 81 02"};
        for (String one : inHead) {
            byte[] made = Checks.bytes(one);
            readsWith(one, 4, 5 + NAME.length + made.length, element("1A45DFA3", made, NAME, made));
        }
        readsWith("4282", 4, 5 + NAME.length, element("1A45DFA3", NAME, NAME));
        readsWith("INFO", 4, IN_SEGMENT + INFO.length, HEAD, segment(INFO, INFO, TRACKS));
        readsWith("TRACKS", 4, IN_SEGMENT + TRACKS.length, HEAD, segment(TRACKS, TRACKS));
        String[] inInfo = {"2AD7B1 81 01", "4D80 80", "5741 81 00"};
        for (String one : inInfo) {
            byte[] made = Checks.bytes(one);
            readsWith(one, 4, IN_SEGMENT + 5 + made.length, HEAD, segment(element("1549A966", made, made)));
        }
        readsWith("AE", 4, IN_SEGMENT + 5 + TRACK.length, HEAD, segment(element("1654AE6B", TRACK, TRACK)));
        String[] inTrack = {"D7 81 01", "83 81 02", "86 81 41", "73C5 81 01", "9C 81 00"};
        for (String one : inTrack) {
            byte[] made = Checks.bytes(one);
            readsWith(one, 4, IN_SEGMENT + 7 + made.length, HEAD,
                    segment(element("1654AE6B", element("AE", made, made))));
        }
        readsWith("E7", 4, IN_CLUSTER + TIME.length, HEAD, segment(TRACKS, cluster(TIME)));
        readsWith("E7 behind a block", 4, IN_CLUSTER + TIME.length + BLOCK.length, HEAD,
                segment(TRACKS, cluster(BLOCK, TIME)));
        byte[] block = Checks.bytes("A1 84 81000000");
        byte[] duration = Checks.bytes("9B 81 05");
        readsWith("A1", 4, IN_CLUSTER + TIME.length + 2 + block.length, HEAD,
                segment(TRACKS, cluster(element("A0", block, block))));
        readsWith("9B", 4, IN_CLUSTER + TIME.length + 2 + duration.length, HEAD,
                segment(TRACKS, cluster(element("A0", duration, duration))));
    }

    private static void valueFaults() {
        String[] inHead = {"4286 81 00", "4286 81 02", "42F7 80", "42F7 81 02", "42F2 81 03", "42F2 81 05",
            "42F3 81 07", "42F3 81 09", "4287 81 00", "4287 81 05", "4285 80", "4285 81 05", "4286 89 000000000000000001",
            "4286 88 8000000000000001", "4286 88 4000000000000001", "4282 80", "4282 84 'webm'", "4282 88 'matroskb'", "4282 88 'natroska'",
            "4282 89 'matroska' 00", "4282 87 'matrosk'"};
        for (String one : inHead) {
            readsWith(one, 5, 5, element("1A45DFA3", Checks.bytes(one)), segment(TRACKS));
        }
        String[] inInfo = {"2AD7B1 80", "2AD7B1 81 00", "2AD7B1 88 4000000000000000", "2AD7B1 88 FFFFFFFFFFFFFFFF"};
        for (String one : inInfo) {
            readsWith(one, 5, IN_SEGMENT + 5, HEAD, segment(element("1549A966", Checks.bytes(one)), TRACKS));
        }
        reads("the highest UINT", 0, HEAD, segment(element("1549A966", Checks.bytes("2AD7B1 88 3FFFFFFFFFFFFFFF")), TRACKS));
        String[] inTrack = {"D7 80", "D7 81 00", "D7 81 7F", "83 81 01", "83 81 03", "86 80", "73C5 80", "73C5 81 00",
            "9C 81 02", "9C 89 000000000000000000"};
        for (String one : inTrack) {
            readsWith(one, 5, IN_SEGMENT + 7, HEAD, segment(element("1654AE6B", element("AE", Checks.bytes(one)))));
        }
        String[] inCluster = {"E7 86 010000000000", "E7 89 000000000000000000", "E7 88 FFFFFFFFFFFFFFFF"};
        for (String one : inCluster) {
            readsWith(one, 5, IN_CLUSTER, HEAD, segment(TRACKS, element("1F43B675", Checks.bytes(one))));
        }
        readsWith("9B", 5, IN_CLUSTER + TIME.length + 2, HEAD,
                segment(TRACKS, cluster(element("A0", Checks.bytes("9B 88 4000000000000000")))));
    }

    private static void blockFaults() {
        String[] wrong = {"", "81", "81 00", "81 0000", "40", "4001 0000", "00 0000 00 00000000000000", "82 0000 00",
            "80 0000 00", "FF 0000 00", "4002 0000 00", "01FFFFFFFFFFFFFF 0000 00", "81 FF9B 00", "81 8000 00"};
        for (String one : wrong) {
            blockIsWrong("A3 " + one, "A3", one);
            blockIsWrong("A1 " + one, "A1", one);
        }
        int[] bits = {0x10, 0x20, 0x40};
        for (int bit : bits) {
            blockIsWrong("A3, bit " + bit, "A3", String.format("81 0000 %02X", bit));
            blockIsWrong("A1, bit " + bit, "A1", String.format("81 0000 %02X", bit));
        }
        blockIsWrong("A1, bit 80", "A1", "81 0000 80");
        blockIsWrong("A1, bit 01", "A1", "81 0000 01");
        readsWith("above the last TIME", 5, IN_CLUSTER + 8, HEAD, segment(TRACKS, element("1F43B675",
                Checks.bytes("E7 86 00FFFFFFFFFE"), Checks.bytes("A3 84 81 0002 00"))));
    }

    private static void laceFaults() {
        String[] wrong = {"02", "04", "06", "02 01", "02 01 FF", "02 01 FFFF", "02 01 01", "02 02 0101 05", "02 01 03 0102",
            "04 01 05", "04 02 01020304", "04 FF 01", "06 01", "06 01 00 05", "06 01 FF 05", "06 01 81", "06 01 82 05",
            "06 01 40", "06 02 81", "06 02 81 BD 05 05", "06 02 81 FF 0505", "06 02 81 00 0505",
            "06 02 81 7FFF 0505", "06 02 81 C1 050505", "06 02 81 01FFFFFFFFFFFFFE 05", "06 02 81 0100000000000000 05"};
        for (String one : wrong) {
            blockIsWrong("lace " + one, "A3", "81 0000 " + one);
            blockIsWrong("lace " + one, "A1", "81 0000 " + one);
        }
    }

    private static void manyFaults() {
        readsBlockWith("65 packets", 6, IN_CLUSTER + TIME.length, "A3 85 81 0000 04 40");
        StreamRemuxer x = reads("64 packets", 64, HEAD, segment(TRACKS, cluster(Checks.bytes("A3 85 81 0000 04 3F"))));
        Checks.due("TIME of the last", x.time(63), -1);
        readsBlockWith("packet 65", 6, IN_CLUSTER + TIME.length + 7, "A3 85 81 0000 04 3F A3 84 81 0000 00");
        readsBlockWith("256 packets", 6, IN_CLUSTER + TIME.length, "A3 85 81 0000 04 FF");
        readsBlockWith("256 packets, wrong", 5, IN_CLUSTER + TIME.length, "A3 86 81 0000 04 FF 01");
        int before = HEAD.length + 6 + TRACKS.length + 6 + TIME.length;
        byte[] most = element("A3", Checks.bytes("81 0000 00"), new byte[2400]);
        reads("2,400 bytes", 1, HEAD, segment(TRACKS, cluster(most)));
        byte[] more = element("A3", Checks.bytes("81 0000 00"), new byte[2401]);
        readsWith("2,401 bytes", 6, before, HEAD, segment(TRACKS, cluster(more)));
        reads("an empty one more", 2, HEAD, segment(TRACKS, cluster(most, Checks.bytes("A3 84 81 0000 00"))));
        readsWith("a byte more", 6, before + most.length, HEAD,
                segment(TRACKS, cluster(most, Checks.bytes("A3 85 81 0000 00 01"))));
    }

    private static void readsBlockWith(String what, int fault, int place, String blocks) {
        readsWith(what, fault, place, HEAD, segment(TRACKS, cluster(Checks.bytes(blocks))));
    }

    private static void missingFaults() {
        readsWith("nothing", 7, 0);
        readsWith("HEAD", 7, VOID.length, VOID);
        readsWith("SEGMENT", 7, HEAD.length + VOID.length, HEAD, VOID);
        readsWith("4282", 7, VOID.length, VOID, element("1A45DFA3", Checks.bytes("4286 81 01")), Checks.bytes("00"));
        readsWith("TRACKS", 7, HEAD.length, HEAD, segment(INFO));
        readsWith("TRACKS, nothing", 7, HEAD.length, HEAD, segment());
        readsWith("AE", 7, IN_SEGMENT, HEAD, segment(element("1654AE6B", VOID)));
        readsWith("D7", 7, IN_SEGMENT + 5, HEAD, segment(element("1654AE6B", element("AE", TYPE, CODEC))));
        readsWith("83", 7, IN_SEGMENT + 5, HEAD, segment(element("1654AE6B", element("AE", NUMBER, CODEC))));
        readsWith("86", 7, IN_SEGMENT + 5, HEAD, segment(element("1654AE6B", element("AE", NUMBER, TYPE))));
        int at = IN_SEGMENT + TRACKS.length;
        readsWith("E7", 7, at, HEAD, segment(TRACKS, element("1F43B675", VOID)));
        readsWith("E7 of the second", 7, at + CLUSTER.length, HEAD, segment(TRACKS, CLUSTER, element("1F43B675")));
        readsWith("E7 ahead of A3", 7, IN_CLUSTER, HEAD, segment(TRACKS, element("1F43B675", BLOCK, TIME)));
        readsWith("E7 ahead of a wrong A3", 7, IN_CLUSTER, HEAD,
                segment(TRACKS, element("1F43B675", Checks.bytes("A3 80"))));
        readsWith("E7 of another CLUSTER", 7, IN_CLUSTER + CLUSTER.length, HEAD,
                segment(TRACKS, CLUSTER, element("1F43B675", BLOCK)));
        readsWith("E7 ahead of A1", 7, IN_CLUSTER + 2, HEAD,
                segment(TRACKS, element("1F43B675", element("A0", Checks.bytes("A1 80")))));
        readsWith("A1", 7, IN_CLUSTER + TIME.length, HEAD,
                segment(TRACKS, cluster(element("A0", Checks.bytes("9B 81 05")))));
    }

    private static void orderOfFaults() {
        readsWith("ID ahead of SHORT by SIZE", 2, 0, Checks.bytes("18538067"));
        readsWith("ID ahead of SIZE", 2, 0, Checks.bytes("18538067 00"));
        readsWith("SIZE ahead of SHORT by bytes", 3, 0, Checks.bytes("EC 0880000000"));
        readsWith("SIZE ahead of TWICE", 3, HEAD.length, HEAD, Checks.bytes("1A45DFA3 FF"));
        readsWith("SHORT ahead of TWICE", 1, HEAD.length, HEAD, Checks.bytes("1A45DFA3 81"));
        readsWith("TWICE ahead of VALUE", 4, 5 + NAME.length, element("1A45DFA3", NAME, Checks.bytes("4282 80")));
        readsWith("TWICE ahead of MISSING", 4, HEAD.length, HEAD, Checks.bytes("1A45DFA3 80"));
        readsWith("TWICE ahead of what's in it", 4, IN_SEGMENT + TRACKS.length, HEAD,
                segment(TRACKS, Checks.bytes("1654AE6B 81 00")));
        readsWith("what's in it ahead of MISSING", 5, 5, element("1A45DFA3", Checks.bytes("4286 81 07")));
    }

    private static void stateOfReading() {
        StreamRemuxer x = reads("two CLUSTERS", 2, HEAD, segment(TRACKS, CLUSTER, CLUSTER));
        Checks.due("CLUSTERS", x.count(5), 2);
        Checks.due("blocks", x.count(6), 2);
        Checks.due("count(4)", x.count(4), 0);
        Checks.due("readPages(0)", x.readPages(0), -1);
        Checks.due("FAULT of the latest", x.wrong(0), 1);
        Checks.due("place of the latest", x.wrong(1), 0);
        Checks.due("readElements(1) of nothing", x.readElements(1), -2);
        Checks.due("FAULT stays", x.wrong(0), 1);
        Checks.due("CLUSTERS stay", x.count(5), 2);
        Checks.due("blocks stay", x.count(6), 2);
        Checks.due("readElements(0)", x.readElements(0), -1);
        Checks.due("CLUSTERS behind a FAULT", x.count(5), 0);
        Checks.due("blocks behind a FAULT", x.count(6), 0);
        Checks.due("LIST stays", Checks.list(x), "100:AABB 100:AABB");
    }
}
