import java.util.Arrays;

/** Promise 8: elements read, their lengths, blocks and laces, and what they are read to. */
public final class ElementsReadingTest extends ElementFiles {
    private static final byte[] INFO_THRICE = Checks.join(INFO, INFO, INFO);
    private static final byte[] WHOLE = Checks.join(HEAD, segment(TRACKS, CLUSTER));

    public static void main(String[] args) {
        refused();
        firstBytesAlone();
        least();
        idLengths();
        sizeLengths();
        unknownSizes();
        uintLengths();
        voids();
        headElements();
        infoElements();
        trackElements();
        groups();
        unknownSegment();
        unknownClusters();
        blockNumbers();
        blockTimes();
        clusterTimes();
        blockBits();
        lacingOfNone();
        lacingBySums();
        lacingOfSame();
        lacingByDifferences();
        timesOfPackets();
        readingAgain();
        fullTape();
        Checks.end(8);
    }

    private static StreamRemuxer reads(String what, String list, byte[]... parts) {
        StreamRemuxer x = new StreamRemuxer();
        x.packet(0, 77);
        int n = Checks.load(x, Checks.join(parts));
        int answer = x.readElements(n);
        Checks.due(what + ": FAULT", x.wrong(0), 0);
        Checks.due(what + ": place", x.wrong(1), -1);
        Checks.due(what + ": LIST", Checks.list(x), list);
        Checks.due(what + ": answer", answer, x.count(0));
        Checks.due(what + ": tape", x.count(3), 0);
        return x;
    }

    private static void faultIs(String what, int fault, int place, byte[]... parts) {
        StreamRemuxer x = new StreamRemuxer();
        int n = Checks.load(x, Checks.join(parts));
        Checks.due(what + ": readElements", x.readElements(n), -1);
        Checks.due(what + ": FAULT", x.wrong(0), fault);
        Checks.due(what + ": place", x.wrong(1), place);
    }

    private static void readsBlock(String what, String list, String block) {
        reads(what, list, HEAD, segment(TRACKS, cluster(element("A3", bytes(block)))));
        int bits = Integer.parseInt(block.replace(" ", "").substring(6, 8), 16);
        if ((bits & 0x81) == 0) {
            reads(what + ", A1", list, HEAD, segment(TRACKS, cluster(element("A0", element("A1", bytes(block))))));
        }
    }

    private static void blockIsWrong(String what, String block) {
        byte[] simple = element("A3", bytes(block));
        byte[] file = Checks.join(HEAD, segment(TRACKS, cluster(simple)));
        faultIs(what, 5, file.length - simple.length, file);
        byte[] grouped = element("A1", bytes(block));
        file = Checks.join(HEAD, segment(TRACKS, cluster(element("A0", grouped))));
        faultIs(what + ", A1", 5, file.length - grouped.length, file);
    }

    private static void refused() {
        Checks.of(8, "Likewise as elements.");
        StreamRemuxer x = reads("one packet", "100:AABB", WHOLE);
        Checks.due("of an empty tape", x.readElements(1), -2);
        Checks.load(x, WHOLE);
        String before = Checks.state(x);
        int onTape = x.count(3);
        int[] lengths = {-1, onTape + 1, Integer.MIN_VALUE, Integer.MAX_VALUE, 6000};
        for (int n : lengths) {
            Checks.due("readElements(" + n + ")", x.readElements(n), -2);
            Checks.due("state", Checks.state(x), before);
        }
        Checks.due("the tape stays", x.readElements(WHOLE.length), 1);
    }

    private static void firstBytesAlone() {
        StreamRemuxer x = reads("one packet", "100:AABB", WHOLE);
        Checks.load(x, Checks.join(WHOLE, new byte[20]));
        Checks.due("less than the tape has", x.readElements(WHOLE.length), 1);
        Checks.due("the tape is empty", x.count(3), 0);
        Checks.load(x, WHOLE);
        Checks.due("readElements(0)", x.readElements(0), -1);
        Checks.due("the tape is empty", x.count(3), 0);
        Checks.due("the LIST stays", Checks.list(x), "100:AABB");
        Checks.load(x, Checks.join(WHOLE, new byte[1]));
        Checks.due("a FAULT behind all", x.readElements(WHOLE.length + 1), -1);
        Checks.due("the LIST stays", Checks.list(x), "100:AABB");
    }

    private static void least() {
        Checks.of(8, "FILE: HEAD 1A45DFA3, then SEGMENT 18538067.");
        StreamRemuxer x = reads("no CLUSTER", "", HEAD, segment(TRACKS));
        Checks.due("CLUSTERS", x.count(5), 0);
        Checks.due("blocks", x.count(6), 0);
        x = reads("CLUSTERS without blocks", "", HEAD, segment(TRACKS, cluster(), cluster()));
        Checks.due("CLUSTERS", x.count(5), 2);
        Checks.due("blocks", x.count(6), 0);
        x = reads("two CLUSTERS", "100:AABB 100:AABB 100:AABB", HEAD, segment(TRACKS, CLUSTER, cluster(BLOCK, BLOCK)));
        Checks.due("CLUSTERS", x.count(5), 2);
        Checks.due("blocks", x.count(6), 3);
    }

    /** An ID that is not told, cut and whole: cut it is SHORT, whole it can't stand there. */
    private static void idLengths() {
        Checks.of(8, "ID: 1 to 4 bytes, the highest bit 1 of the first byte tells how many");
        String[] ids = {"80", "BF", "FF", "4000", "7FFF", "200000", "3FFFFF", "10000000", "1FFFFFFF"};
        for (String id : ids) {
            byte[] whole = bytes(id);
            for (int n = 1; n < whole.length; n++) {
                faultIs(id + ", " + n + " bytes", 1, HEAD.length, HEAD, Arrays.copyOf(whole, n));
            }
            faultIs(id, 2, HEAD.length, HEAD, whole);
        }
        Checks.of(8, "it's told by all its bits");
        String[] others = {"6C", "40EC", "2000EC", "100000EC", "1A45DFA2", "0A45DFA3", "18538066", "38538067"};
        for (String id : others) {
            faultIs(id, 2, HEAD.length, HEAD, bytes(id + "80"), bytes("EC 82 0000"));
        }
    }

    private static void sizeLengths() {
        Checks.of(8, "SIZE: likewise 1 to 8 bytes (down to 01), the number being the bits behind that bit");
        String[] twos = {"82", "4002", "200002", "10000002", "0800000002", "040000000002", "02000000000002",
            "0100000000000002"};
        for (String two : twos) {
            byte[] whole = bytes("EC" + two + "0505");
            reads(two, "", whole, HEAD, whole, segment(whole, TRACKS, whole), whole);
            for (int n = 1; n < whole.length; n++) {
                faultIs(two + ", " + n + " bytes", 1, HEAD.length, HEAD, Arrays.copyOf(whole, n));
            }
        }
        reads("126 bytes", "", bytes("EC FE"), new byte[126], HEAD, segment(TRACKS));
        reads("127 bytes", "", bytes("EC 407F"), new byte[127], HEAD, segment(TRACKS));
        reads("300 bytes", "", bytes("EC 20012C"), new byte[300], HEAD, segment(TRACKS));
        faultIs("126 bytes, one is missing", 1, 0, bytes("EC FE"), new byte[125]);
        faultIs("the highest of two", 1, 0, bytes("EC 7FFE"), new byte[200]);
        faultIs("the highest of three", 1, 0, bytes("EC 3FFFFE"), new byte[200]);
        faultIs("the highest of four", 1, 0, bytes("EC 1FFFFFFE"), new byte[200]);
    }

    private static void unknownSizes() {
        Checks.of(8, "if these are all 1, it's UNKNOWN");
        String[] unknown = {"FF", "7FFF", "3FFFFF", "1FFFFFFF", "0FFFFFFFFF", "07FFFFFFFFFF", "03FFFFFFFFFFFF",
            "01FFFFFFFFFFFFFF"};
        for (String one : unknown) {
            reads("SEGMENT's " + one, "100:AABB", HEAD, bytes("18538067" + one), TRACKS, CLUSTER);
            reads("a CLUSTER's " + one, "100:AABB 100:AABB", HEAD,
                    segment(TRACKS, bytes("1F43B675" + one), TIME, BLOCK, CLUSTER));
            faultIs("EC's " + one, 3, HEAD.length, HEAD, bytes("EC" + one));
        }
        String[] known = {"FE", "FD", "BF", "7FFE", "7EFF", "5FFF", "3FFEFF", "1FFFFEFF"};
        for (String one : known) {
            faultIs("SEGMENT's " + one, 1, HEAD.length, HEAD, bytes("18538067" + one), TRACKS, CLUSTER);
        }
    }

    private static byte[] inInfo(String told) {
        return Checks.join(HEAD, segment(element("1549A966", bytes(told)), TRACKS));
    }

    private static void uintLengths() {
        Checks.of(8, "UINT: 0 to 8 bytes, a number below 2 to the 62.");
        String zeros = "";
        for (int length = 1; length <= 8; length++) {
            reads(length + " bytes", "", inInfo("2AD7B1 8" + length + zeros + "01"));
            zeros += "00";
        }
        faultIs("9 bytes", 5, IN_SEGMENT + 5, inInfo("2AD7B1 89" + zeros + "01"));
        faultIs("no byte is 0", 5, IN_SEGMENT + 5, inInfo("2AD7B1 80"));
        reads("no byte is 0", "", HEAD, segment(tracks(NUMBER, TYPE,
                CODEC, bytes("9C 80"))));
        reads("2 to the 62 less 1", "", inInfo("2AD7B1 88 3FFFFFFFFFFFFFFF"));
        String[] above = {"4000000000000000", "4000000000000001", "7FFFFFFFFFFFFFFF", "8000000000000000",
            "8000000000000001", "FFFFFFFFFFFFFFFF"};
        for (String one : above) {
            faultIs(one, 5, IN_SEGMENT + 5, inInfo("2AD7B1 88" + one));
        }
    }

    private static void voids() {
        Checks.of(8, "an ELEMENT EC (of any bytes) may stand wherever others do, also around the two of the file");
        String[] told = {"EC 80", "EC 81 00", "EC 85 1F43B675FF", "EC 4003 A38000", "EC 82 EC7F"};
        for (String one : told) {
            byte[] v = bytes(one);
            byte[] head = element("1A45DFA3", v, NAME, v, v);
            byte[] info = element("1549A966", v, bytes("2AD7B1 81 01"), v);
            byte[] track = element("AE", v, NUMBER, v, TYPE, CODEC, v);
            byte[] group = element("A0", v, bytes("A1 84 81 0001 00"), v);
            StreamRemuxer x = reads(one, "100:AABB 101:", v, v, head, v, segment(v, info, v,
                    element("1654AE6B", v, track, v), v, element("1F43B675", v, TIME, v, BLOCK, v, group, v), v), v, v);
            Checks.due("CLUSTERS", x.count(5), 1);
            Checks.due("blocks", x.count(6), 2);
            reads(one + ", UNKNOWN", "100:AABB 100:AABB", HEAD, OPEN_SEGMENT, v, TRACKS, v,
                    OPEN_CLUSTER, v, TIME, v, BLOCK, v, CLUSTER, v);
        }
    }

    private static void headReads(String told) {
        reads(told, "", element("1A45DFA3", bytes(told), NAME), segment(TRACKS));
        reads(told, "", element("1A45DFA3", NAME, bytes(told)), segment(TRACKS));
    }

    private static void headElements() {
        Checks.of(8, "HEAD, each at most once: 4286, 42F7 (UINT 1), 42F2 (UINT 4), 42F3 (UINT 8), "
                + "4282 (the bytes \"matroska\"; it must be there), 4287, 4285 (UINT 1 to 4).");
        String[] right = {"4286 81 01", "42F7 81 01", "42F2 81 04", "42F3 81 08", "4287 81 01", "4287 81 04",
            "4285 81 01", "4285 81 04", "4286 88 0000000000000001", "42F2 82 0004", ""};
        for (String one : right) {
            headReads(one);
        }
        headReads("4285 81 02 4287 81 03 42F3 81 08 42F2 81 04 42F7 81 01 4286 81 01");
        String[] wrong = {"4286 81 00", "4286 81 02", "4286 80", "42F7 80", "42F7 81 00", "42F7 81 02", "42F2 80",
            "42F2 81 03", "42F2 81 05", "42F3 80", "42F3 81 07", "42F3 81 09", "4287 80", "4287 81 00", "4287 81 05",
            "4285 80", "4285 81 00", "4285 81 05", "4286 89 000000000000000001", "4286 88 8000000000000001",
            "4286 88 4000000000000001", "4285 82 0101"};
        for (String one : wrong) {
            faultIs(one, 5, 5, element("1A45DFA3", bytes(one), NAME), segment(TRACKS));
        }
        String[] names = {"4282 80", "4282 84 'webm'", "4282 87 'matrosk'", "4282 89 'matroska' 00",
            "4282 88 'matroskA'",
            "4282 88 'Matroska'", "4282 88 'matr0ska'", "4282 89 00 'matroska'"};
        for (String one : names) {
            faultIs(one, 5, 5, element("1A45DFA3", bytes(one)), segment(TRACKS));
        }
    }

    private static void infoElements() {
        Checks.of(8, "INFO, each at most once: 2AD7B1 (UINT, 1 at least), 4D80, 5741 (any bytes).");
        String[] right = {"", "2AD7B1 81 01", "4D80 80", "5741 80", "4D80 83 00FF00", "5741 82 FFFF 4D80 81 00",
            "5741 89 000000000000000000"};
        for (String one : right) {
            reads(one, "", inInfo(one));
        }
        faultIs("2AD7B1 0", 5, IN_SEGMENT + 5, inInfo("2AD7B1 81 00"));
        byte[] info = INFO;
        reads("INFO behind TRACKS", "100:AABB", HEAD, segment(TRACKS, info, CLUSTER));
        reads("no INFO", "100:AABB", HEAD, segment(TRACKS, CLUSTER));
    }

    private static void trackElements() {
        Checks.of(8, "D7 (UINT 1 to 126; NUMBER) and 83 (UINT 2) once, 86 (a byte at least) once, "
                + "73C5 (UINT, 1 at least) and 9C (UINT 0 or 1) at most once");
        byte[] number = NUMBER;
        byte[] type = TYPE;
        byte[] codec = CODEC;
        String[] right = {"", "73C5 81 01", "73C5 88 3FFFFFFFFFFFFFFF", "9C 81 00", "9C 81 01", "9C 80",
            "73C5 82 0100 9C 80"};
        for (String one : right) {
            reads(one, "", HEAD, segment(tracks(bytes(one), codec, number, type)));
        }
        reads("NUMBER 126", "", HEAD, segment(tracks(bytes("D7 81 7E"), type, codec)));
        reads("86 of 8 bytes and more", "", HEAD,
                segment(tracks(number, type, bytes("86 89 'A_VORBIS_'"))));
        String[] wrong = {"D7 80", "D7 81 00", "D7 81 7F", "D7 82 0101", "D7 89 000000000000000001", "83 80",
            "83 81 01",
            "83 81 03", "86 80", "73C5 80", "73C5 81 00", "73C5 88 4000000000000000", "9C 81 02", "9C 81 FF",
            "9C 89 000000000000000000"};
        for (String one : wrong) {
            faultIs(one, 5, IN_SEGMENT + 7, HEAD,
                    segment(tracks(bytes(one), number, type, codec)));
        }
    }

    private static void groups() {
        Checks.of(8, "blocks: A3, or A0 in which A1 stands once and 9B (UINT) at most once");
        byte[] block = bytes("A1 85 81 0001 00 11");
        String[] durations = {"", "9B 80", "9B 81 00", "9B 88 3FFFFFFFFFFFFFFF"};
        for (String one : durations) {
            StreamRemuxer x = reads(one, "101:11 101:11 100:AABB", HEAD, segment(TRACKS,
                    cluster(element("A0", block, bytes(one)), element("A0", bytes(one), block), BLOCK)));
            Checks.due("blocks", x.count(6), 3);
        }
        String[] wrong = {"9B 89 000000000000000000", "9B 88 4000000000000000", "9B 88 FFFFFFFFFFFFFFFF"};
        for (String one : wrong) {
            faultIs(one, 5, FIRST_BLOCK + 2, HEAD,
                    segment(TRACKS, cluster(element("A0", bytes(one), block))));
        }
    }

    private static void unknownSegment() {
        Checks.of(8, "SIZE may be UNKNOWN of SEGMENT (it goes to the file's end)");
        StreamRemuxer x = reads("SEGMENT", "100:AABB", HEAD, OPEN_SEGMENT, TRACKS, CLUSTER, VOID);
        Checks.due("CLUSTERS", x.count(5), 1);
        byte[] file = Checks.join(HEAD, OPEN_SEGMENT, TRACKS, CLUSTER);
        Checks.load(x, Checks.join(file, CLUSTER));
        Checks.due("less than the tape has", x.readElements(file.length), 1);
        faultIs("an element beyond the file", 1, file.length - CLUSTER.length, Arrays.copyOf(file, file.length - 1));
        faultIs("TRACKS are missing", 7, HEAD.length, HEAD, OPEN_SEGMENT);
        faultIs("HEAD in it", 2, file.length, file, HEAD);
        faultIs("SEGMENT in it", 2, file.length, file, segment(TRACKS));
    }

    private static void unknownClusters() {
        Checks.of(8, "and of CLUSTERS (up to the next ELEMENT 1F43B675, or the SEGMENT's end) alone");
        byte[] open = Checks.join(OPEN_CLUSTER, TIME, BLOCK);
        byte[] later = Checks.join(OPEN_CLUSTER, bytes("E7 81 65"), VOID, BLOCK, BLOCK);
        StreamRemuxer x = reads("three", "100:AABB 101:AABB 101:AABB 100:AABB", HEAD,
                segment(TRACKS, open, later, CLUSTER));
        Checks.due("CLUSTERS", x.count(5), 3);
        Checks.due("blocks", x.count(6), 4);
        reads("in a SEGMENT of UNKNOWN SIZE", "100:AABB 100:AABB 101:AABB 101:AABB", HEAD, OPEN_SEGMENT,
                TRACKS, CLUSTER, open, later);
        reads("a VOID behind SEGMENT", "100:AABB", HEAD, segment(TRACKS, open), VOID);
        reads("nothing in it but E7", "", HEAD, segment(TRACKS, OPEN_CLUSTER, TIME));
        byte[] file = Checks.join(HEAD, segment(TRACKS, open));
        faultIs("a block behind SEGMENT", 2, file.length, file, BLOCK);
        faultIs("a CLUSTER behind SEGMENT", 2, file.length, file, CLUSTER);
        faultIs("a block beyond SEGMENT", 1, file.length - BLOCK.length, HEAD,
                segment(TRACKS, Arrays.copyOf(open, open.length - 1)), bytes("BB"));
    }

    private static void blockNumbers() {
        Checks.of(8, "A block (A3, A1): NUMBER as a SIZE");
        String[] ones = {"81", "4001", "200001", "10000001", "0800000001", "040000000001", "02000000000001",
            "0100000000000001"};
        for (String one : ones) {
            reads(one, "100:11", HEAD, segment(TRACKS, cluster(element("A3", bytes(one + "0000 00 11")))));
        }
        String[] others = {"80", "82", "FE", "FF", "4000", "4002", "4101", "7FFF", "0100000000000002",
            "0101000000000001", "01FFFFFFFFFFFFFF", "00"};
        for (String one : others) {
            blockIsWrong("NUMBER " + one, one + "0000 00 11");
        }
        byte[] last = tracks(bytes("D7 81 7E"), TYPE, CODEC);
        reads("NUMBER 126", "100:", HEAD, segment(last, cluster(bytes("A3 84 FE 0000 00"))));
        reads("NUMBER 126 of two bytes", "100:", HEAD, segment(last, cluster(bytes("A3 85 407E 0000 00"))));
    }

    private static byte[] timedFile(String clusterTime, String block) {
        return Checks.join(HEAD, segment(TRACKS, element("1F43B675", bytes(clusterTime), element("A3", bytes(block)))));
    }

    private static void blockTimes() {
        Checks.of(8, "2 bytes, with a sign, that come to B: its TIME");
        readsBlock("0", "100:", "81 0000 00");
        readsBlock("1", "101:", "81 0001 00");
        readsBlock("32,767", "32867:", "81 7FFF 00");
        readsBlock("-1", "99:", "81 FFFF 00");
        readsBlock("-100", "0:", "81 FF9C 00");
        blockIsWrong("-101", "81 FF9B 00");
        blockIsWrong("-32,768", "81 8000 00");
        reads("32,768 less 32,768", "0:", timedFile("E7 82 8000", "81 8000 00"));
        faultIs("32,767 less 32,768", 5, IN_CLUSTER + 4, timedFile("E7 82 7FFF", "81 8000 00"));
        reads("the last TIME", "1099511627775:", timedFile("E7 85 FFFFFFFFFE", "81 0001 00"));
        faultIs("one above it", 5, IN_CLUSTER + 7, timedFile("E7 85 FFFFFFFFFE", "81 0002 00"));
        faultIs("32,767 above it", 5, IN_CLUSTER + 7, timedFile("E7 85 FFFFFFFFFF", "81 7FFF 00"));
        reads("the last TIME less 1", "1099511627774:", timedFile("E7 85 FFFFFFFFFF", "81 FFFF 00"));
    }

    private static void clusterTimes() {
        Checks.of(8, "CLUSTER: E7 (UINT, a TIME; B) once, ahead of blocks");
        reads("no byte", "0:", timedFile("E7 80", "81 0000 00"));
        reads("0", "0:", timedFile("E7 81 00", "81 0000 00"));
        reads("8 bytes", "1099511627775:", timedFile("E7 88 000000FFFFFFFFFF", "81 0000 00"));
        String[] wrong = {"E7 86 010000000000", "E7 89 000000000000000000", "E7 88 FFFFFFFFFFFFFFFF",
            "E7 88 0000010000000000", "E7 88 3FFFFFFFFFFFFFFF"};
        for (String one : wrong) {
            faultIs(one, 5, IN_CLUSTER, timedFile(one, "81 0000 00"));
        }
        reads("each CLUSTER has its own", "100:AABB 7: 100:AABB", HEAD, segment(TRACKS, CLUSTER,
                element("1F43B675", bytes("E7 81 05"), bytes("A3 84 81 0002 00")), CLUSTER));
    }

    private static void blockBits() {
        Checks.of(8, "a byte: 80 (of A3 alone) and 08 and 01 (of A3 alone) may be there");
        for (int bits = 0; bits < 256; bits++) {
            String told = String.format("81 0000 %02X 00", bits);
            boolean mayBeOfBoth = (bits & 0x70) == 0;
            byte[] simple = Checks.join(HEAD, segment(TRACKS, cluster(element("A3", bytes(told)))));
            byte[] grouped = Checks.join(HEAD, segment(TRACKS, cluster(element("A0", element("A1", bytes(told))))));
            String list = (bits & 6) == 0 ? "100:00" : "100:";
            if (mayBeOfBoth) {
                reads(told, list, simple);
            } else {
                faultIs(told, 5, FIRST_BLOCK, simple);
            }
            if (mayBeOfBoth && (bits & 0x81) == 0) {
                reads(told + " of A1", list, grouped);
            } else {
                faultIs(told + " of A1", 5, FIRST_BLOCK + 2, grouped);
            }
        }
    }

    private static void lacingOfNone() {
        Checks.of(8, "LACING, its bits 04 and 02: 0 one packet, all that follows; "
                + "else a byte, how many packets less 1");
        readsBlock("lace 0", "100:0102", "81 0000 80 0102");
        readsBlock("lace 0, empty", "100:", "81 0000 00");
        readsBlock("lace 1 of one", "100:0102", "81 0000 02 00 0102");
        readsBlock("lace 2 of one", "100:0102", "81 0000 04 00 0102");
        readsBlock("lace 3 of one", "100:0102", "81 0000 06 00 0102");
        readsBlock("lace 1 of an empty one", "100:", "81 0000 02 00");
        readsBlock("lace 3 of an empty one", "100:", "81 0000 06 00");
        readsBlock("lace 2 of 64", "100:" + " -1:".repeat(63), "81 0000 04 3F");
        String[] without = {"02", "04", "06"};
        for (String lacing : without) {
            blockIsWrong("the byte is missing", "81 0000 " + lacing);
        }
    }

    private static void lacingBySums() {
        Checks.of(8, "1 (02): of each but the last one its size, as bytes 255 and a last one of less, added");
        readsBlock("three", "100:0102 -1: -1:03", "81 0000 02 02 0200 010203");
        readsBlock("the last one is empty", "100:0102 -1:", "81 0000 02 01 02 0102");
        readsBlock("all are empty", "100: -1: -1:", "81 0000 02 02 0000");
        String many = "FF".repeat(254);
        readsBlock("254", "100:" + many + " -1:01", "81 0000 02 01 FE" + many + "01");
        readsBlock("255", "100:FF" + many + " -1:01", "81 0000 02 01 FF00 FF" + many + "01");
        readsBlock("510", "100:FFFF" + many + many + " -1:", "81 0000 02 01 FFFF00 FFFF" + many + many);
        String[] wrong = {"02 01", "02 01 01", "02 01 03 0102", "02 02 0101 05", "02 02 00", "02 01 FF", "02 01 FFFF",
            "02 FF 00", "02 01 FF00 00"};
        for (String one : wrong) {
            blockIsWrong(one, "81 0000 " + one);
        }
    }

    private static void lacingOfSame() {
        Checks.of(8, "2 (04): all have the same; the last one has what is left");
        readsBlock("three", "100:01 -1:02 -1:03", "81 0000 04 02 010203");
        readsBlock("two of two", "100:0102 -1:0304", "81 0000 04 01 01020304");
        readsBlock("two empty ones", "100: -1:", "81 0000 04 01");
        String[] wrong = {"04 01 05", "04 01 050505", "04 02 01020304", "04 02 01", "04 FF 01"};
        for (String one : wrong) {
            blockIsWrong(one, "81 0000 " + one);
        }
    }

    private static void lacingByDifferences() {
        Checks.of(8, "of each other one but the last the difference to the one ahead, "
                + "as a SIZE of k bytes less 2 to the (7 k - 1) and 1 more");
        readsBlock("four", "100:0102 -1: -1:03 -1:04", "81 0000 06 03 82 BD C0 01020304");
        readsBlock("two", "100:01 -1:02", "81 0000 06 01 81 0102");
        readsBlock("the last one is empty", "100:01 -1:", "81 0000 06 01 81 01");
        readsBlock("the same", "100:01 -1:02 -1:", "81 0000 06 02 81 BF 0102");
        String[] noDifference = {"BF", "5FFF", "2FFFFF", "17FFFFFF", "0BFFFFFFFF", "05FFFFFFFFFF", "02FFFFFFFFFFFF",
            "017FFFFFFFFFFFFF"};
        for (String one : noDifference) {
            readsBlock("0 as " + one, "100:01 -1:02 -1:03", "81 0000 06 02 81" + one + "010203");
        }
        String[] oneMore = {"C0", "6000", "300000", "18000000", "0C00000000", "060000000000", "03000000000000",
            "0180000000000000"};
        for (String one : oneMore) {
            readsBlock("1 as " + one, "100:01 -1:0203 -1:04", "81 0000 06 02 81" + one + "01020304");
        }
        readsBlock("63", "100: -1:" + "00".repeat(63) + " -1:", "81 0000 06 02 80 FE" + "00".repeat(63));
        readsBlock("-63", "100:" + "00".repeat(63) + " -1: -1:", "81 0000 06 02 BF 80" + "00".repeat(63));
        readsBlock("a wide first one", "100:01 -1:02", "81 0000 06 01 0100000000000001 0102");
        String[] wrong = {"06 01", "06 01 00 05", "06 01 FF 05", "06 01 81", "06 01 82 05", "06 01 40", "06 02 81",
            "06 02 81 BD 05 05", "06 02 81 FF 0505", "06 02 81 00 0505", "06 02 81 7FFF 0505", "06 02 81 C1 050505",
            "06 02 81 01FFFFFFFFFFFFFE 05", "06 02 81 0100000000000000 05", "06 01 01FFFFFFFFFFFFFF 05",
            "06 02 80 BE", "06 03 82 BE BD 010203", "06 01 01FFFFFFFFFFFFFE 05", "06 02 81 40"};
        for (String one : wrong) {
            blockIsWrong(one, "81 0000 " + one);
        }
        blockIsWrong("UNKNOWN, though it would come out", "81 0000 06 02 DA FF" + "00".repeat(300));
        blockIsWrong("a wide UNKNOWN one", "81 0000 06 02 DA 7FFF" + "00".repeat(300));
        readsBlock("the highest known one", "100:" + "00".repeat(90) + " -1:" + "00".repeat(153) + " -1:",
                "81 0000 06 02 DA FE" + "00".repeat(243));
    }

    private static void timesOfPackets() {
        Checks.of(8, "The first packet has the block's TIME, others NONE.");
        reads("two blocks", "100:01 -1:02 105:03 -1:04", HEAD, segment(TRACKS, cluster(
                bytes("A3 87 81 0000 04 01 0102"), bytes("A3 87 81 0005 04 01 0304"))));
        reads("TIMES may go down", "105: 100: 99:", HEAD, segment(TRACKS, cluster(
                bytes("A3 84 81 0005 00"), bytes("A3 84 81 0000 00"), bytes("A3 84 81 FFFF 00"))));
    }

    /** Nothing of an earlier reading counts in a later one, with a FAULT or without. */
    private static void readingAgain() {
        Checks.of(8, "Likewise as elements.");
        byte[] last = tracks(bytes("D7 81 7E"), TYPE, CODEC);
        byte[] group = element("A0", bytes("A1 84 81 0000 00"), bytes("00"));
        byte[][] earlier = {
            WHOLE, new byte[1], new byte[0], HEAD, Checks.join(HEAD, segment(last, cluster(bytes("A3 84 FE 0000 00")))),
            Checks.join(HEAD, segment(TRACKS, cluster(BLOCK, group))), Checks.join(HEAD, segment(INFO_THRICE)),
            Checks.join(HEAD, segment(TRACKS, OPEN_CLUSTER, TIME, BLOCK, bytes("00"))),
            Checks.join(HEAD, segment(TRACKS, cluster(bytes("A3 85 81 0000 04 3F A3 84 81 0000 00")))),
        };
        for (byte[] one : earlier) {
            StreamRemuxer x = new StreamRemuxer();
            for (int times = 0; times < 3; times++) {
                x.readElements(Checks.load(x, one));
                Checks.due("readElements", x.readElements(Checks.load(x, WHOLE)), 1);
                Checks.due("state", Checks.state(x), "counts 1 2 0 0 0 1 1, wrong 0 -1, LIST 100:AABB, OUT ");
            }
            x.readElements(Checks.load(x, one));
            x.readElements(Checks.load(x, Checks.join(HEAD, segment(TRACKS, element("1F43B675", BLOCK)))));
            Checks.due("a TIME of earlier is none", x.wrong(0), 7);
            x.readElements(Checks.load(x, one));
            x.readElements(Checks.load(x, Checks.join(HEAD, segment(element("1654AE6B", TRACK, CLUSTER), CLUSTER))));
            Checks.due("a CLUSTER in TRACKS", x.wrong(0), 2);
            Checks.due("its place", x.wrong(1), BEHIND_TRACKS);
        }
    }

    /** As many elements as a tape can hold. */
    private static void fullTape() {
        Checks.of(8, "Likewise as elements.");
        byte[] begin = Checks.join(HEAD, OPEN_SEGMENT, TRACKS, OPEN_CLUSTER, bytes("E7 82 0064"));
        byte[] voids = bytes("EC80".repeat((6000 - begin.length) / 2));
        Checks.due("a full tape", begin.length + voids.length, 6000);
        StreamRemuxer x = reads("6,000 bytes", "", begin, voids);
        Checks.due("CLUSTERS", x.count(5), 1);
        byte[] open = Checks.join(HEAD, OPEN_SEGMENT, TRACKS);
        byte[] clusters = bytes("1F43B675 FF E780".repeat((6000 - open.length) / 7));
        x = reads("CLUSTERS all over", "", open, clusters);
        Checks.due("CLUSTERS", x.count(5), clusters.length / 7);
        byte[] shifted = Checks.join(begin, bytes("EC8100"), Arrays.copyOf(voids, voids.length - 4), bytes("EC"));
        faultIs("a SIZE beyond byte 6,000", 1, 5999, shifted);
    }
}
