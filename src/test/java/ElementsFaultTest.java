import java.util.Arrays;

/** Promise 8: each FAULT of elements, its place, and which comes first. */
public final class ElementsFaultTest extends ElementFiles {
    private static final byte[] EMPTY_BLOCK = bytes("A3 84 81 0000 00");
    private static final int[] BYTES_BEHIND = {0x00, 0x80, 0xEC, 0xFF};

    public static void main(String[] args) {
        shortInFile();
        shortInOthers();
        idThatIsNone();
        idThatIsNotTold();
        idOfAnotherPlace();
        idOfTracksAndInfo();
        idOfClusterAheadOfTracks();
        idOfFile();
        idInUnknownCluster();
        idAheadOfSize();
        sizeThatIsNone();
        sizeThatIsUnknown();
        sizeThatIsTooHigh();
        shortBehindSize();
        twice();
        twiceInOrder();
        valueOfShortBlocks();
        manyPackets();
        manyBytes();
        missingInHeadAndTracks();
        missingTime();
        missingBlock();
        missingAtFileEnd();
        missingComesLast();
        Checks.end(8);
    }

    /** What stands on the tape behind the file must not count. */
    private static void readsWith(String what, int fault, int place, byte[]... parts) {
        byte[] file = Checks.join(parts);
        for (int behind : BYTES_BEHIND) {
            StreamRemuxer x = new StreamRemuxer();
            x.packet(0, 77);
            byte[] tail = new byte[20];
            Arrays.fill(tail, (byte) behind);
            Checks.load(x, Checks.join(file, tail), behind);
            Checks.due(what + ": readElements", x.readElements(file.length), -1);
            Checks.due(what + ": state", Checks.state(x),
                    "counts 1 0 0 0 0 0 0, wrong " + fault + " " + place + ", LIST 77:, OUT ");
        }
    }

    private static void reads(String what, int packets, byte[]... parts) {
        StreamRemuxer x = new StreamRemuxer();
        int n = Checks.load(x, Checks.join(parts));
        Checks.due(what + ": readElements", x.readElements(n), packets);
        Checks.due(what + ": FAULT", x.wrong(0), 0);
    }

    private static void shortInFile() {
        Checks.of(8, "1 SHORT: its ID, its SIZE, or its bytes go beyond the end of that in which it stands.");
        byte[] whole = Checks.join(HEAD, segment(TRACKS, CLUSTER));
        for (int n = 1; n < HEAD.length; n++) {
            readsWith("HEAD cut to " + n, 1, 0, Arrays.copyOf(whole, n));
        }
        for (int n = HEAD.length + 1; n < whole.length; n++) {
            readsWith("SEGMENT cut to " + (n - HEAD.length), 1, HEAD.length, Arrays.copyOf(whole, n));
        }
        byte[] open = Checks.join(HEAD, OPEN_SEGMENT, TRACKS);
        for (int n = 1; n < CLUSTER.length; n++) {
            readsWith("CLUSTER cut to " + n, 1, open.length, open, Arrays.copyOf(CLUSTER, n));
        }
        readsWith("a SIZE of 8 bytes, one is missing", 1, HEAD.length, HEAD, bytes("18538067 01000000000000"));
        readsWith("EC behind SEGMENT", 1, BEHIND_TRACKS, HEAD, segment(TRACKS), bytes("EC"));
    }

    private static void shortInOthers() {
        readsWith("in HEAD", 1, 5, element("1A45DFA3", bytes("4282 88 'matrosk'")), segment(TRACKS));
        readsWith("in SEGMENT", 1, IN_SEGMENT, HEAD, segment(Arrays.copyOf(TRACKS, TRACKS.length - 1)), VOID);
        readsWith("in INFO", 1, IN_SEGMENT + 5, HEAD, segment(element("1549A966", bytes("2AD7B1 82 01")), TRACKS));
        readsWith("in TRACKS", 1, IN_SEGMENT + 5, HEAD, segment(bytes("1654AE6B 83 AE 82 EC"), VOID));
        readsWith("in AE", 1, IN_SEGMENT + 7, HEAD, segment(tracks(bytes("D7 82 01")), VOID));
        readsWith("in CLUSTER", 1, FIRST_BLOCK, HEAD, segment(TRACKS, cluster(bytes("A3 85 81 0000 00")), VOID));
        readsWith("in A0", 1, FIRST_BLOCK + 2, HEAD,
                segment(TRACKS, cluster(element("A0", bytes("A1 85 81 0000 00")))));
        readsWith("in a CLUSTER of UNKNOWN SIZE", 1, FIRST_BLOCK, HEAD,
                segment(TRACKS, OPEN_CLUSTER, TIME, bytes("A3 85 81 0000 00")), VOID);
        readsWith("an ID", 1, IN_SEGMENT + 5, HEAD, segment(bytes("1654AE6B 81 40"), VOID));
        readsWith("a SIZE", 1, IN_SEGMENT + 5, HEAD, segment(bytes("1654AE6B 81 AE"), VOID));
        readsWith("a SIZE, 00 behind", 1, IN_SEGMENT + 5, HEAD, segment(bytes("1654AE6B 81 AE")), bytes("00"));
        readsWith("a SIZE, UNKNOWN by what's behind", 1, IN_SEGMENT + 5, HEAD,
                segment(bytes("1654AE6B 82 AE 7F")), bytes("FF"));
    }

    private static void idThatIsNone() {
        Checks.of(8, "2 ID: it can't be one (00 to 0F)");
        for (int first = 0; first <= 0x0F; first++) {
            byte[] one = {(byte) first};
            readsWith("alone, " + first, 2, 0, one);
            readsWith("behind HEAD, " + first, 2, HEAD.length, HEAD, one, bytes("FFFFFFFFFFFFFFFF"));
            readsWith("behind SEGMENT, " + first, 2, BEHIND_TRACKS, HEAD, segment(TRACKS), one);
            readsWith("in a CLUSTER, " + first, 2, FIRST_BLOCK, HEAD, segment(TRACKS, cluster(one)));
        }
        readsWith("10 is one", 1, 0, bytes("10"));
    }

    private static void idThatIsNotTold() {
        Checks.of(8, "or not stand there (an ELEMENT that may not be there at all");
        String[] unknown = {"BF 80", "40EC 80", "1C53BB6B 80", "FF 80", "1043A770 80", "A6 80"};
        for (String one : unknown) {
            stray(bytes(one), "");
        }
    }

    /** An element that may stand in one place alone, in all the others. */
    private static void stray(byte[] made, String home) {
        String what = Checks.hex(made) + " in ";
        readsWith(what + "the file", 2, HEAD.length, HEAD, made, segment(TRACKS));
        if (!home.equals("HEAD")) {
            readsWith(what + "HEAD", 2, 5, element("1A45DFA3", made, NAME));
        }
        if (!home.equals("SEGMENT")) {
            readsWith(what + "SEGMENT", 2, IN_SEGMENT, HEAD, segment(made, TRACKS));
            readsWith(what + "SEGMENT, behind a CLUSTER", 2, BEHIND_TRACKS + CLUSTER.length, HEAD,
                    segment(TRACKS, CLUSTER, made));
        }
        if (!home.equals("INFO")) {
            readsWith(what + "INFO", 2, IN_SEGMENT + 5, HEAD, segment(element("1549A966", made)));
        }
        if (!home.equals("TRACKS")) {
            readsWith(what + "TRACKS", 2, IN_SEGMENT + 5, HEAD, segment(element("1654AE6B", made)));
        }
        if (!home.equals("AE")) {
            readsWith(what + "AE", 2, IN_SEGMENT + 7, HEAD, segment(tracks(made)));
        }
        if (!home.equals("CLUSTER")) {
            readsWith(what + "CLUSTER", 2, IN_CLUSTER, HEAD, segment(TRACKS, element("1F43B675", made)));
            readsWith(what + "CLUSTER, behind E7", 2, FIRST_BLOCK, HEAD, segment(TRACKS, cluster(made)));
        }
        if (!home.equals("A0")) {
            readsWith(what + "A0", 2, FIRST_BLOCK + 2, HEAD, segment(TRACKS, cluster(element("A0", made))));
        }
    }

    private static void idOfAnotherPlace() {
        String[][] told = {
            {"HEAD", "4286", "42F7", "42F2", "42F3", "4282", "4287", "4285"}, {"INFO", "2AD7B1", "4D80", "5741"},
            {"TRACKS", "AE"}, {"AE", "D7", "83", "86", "73C5", "9C"}, {"CLUSTER", "E7", "A3", "A0"}, {"A0", "A1", "9B"},
            {"SEGMENT", "1549A966", "1654AE6B", "1F43B675"},
        };
        for (String[] home : told) {
            for (int i = 1; i < home.length; i++) {
                stray(bytes(home[i] + "80"), home[0]);
            }
        }
        String[] ofFile = {"1A45DFA3 80", "18538067 80"};
        for (String one : ofFile) {
            byte[] made = bytes(one);
            readsWith(one + " in HEAD", 2, 5, element("1A45DFA3", made, NAME));
            readsWith(one + " in SEGMENT", 2, IN_SEGMENT, HEAD, segment(made, TRACKS));
            readsWith(one + " in CLUSTER", 2, FIRST_BLOCK, HEAD, segment(TRACKS, cluster(made)));
        }
    }

    private static void idOfTracksAndInfo() {
        Checks.of(8, "TRACKS, INFO behind a CLUSTER");
        int behind = BEHIND_TRACKS + CLUSTER.length;
        readsWith("TRACKS", 2, behind, HEAD, segment(TRACKS, CLUSTER, TRACKS));
        readsWith("INFO", 2, behind, HEAD, segment(TRACKS, CLUSTER, INFO));
        readsWith("INFO again", 2, behind + INFO.length, HEAD, segment(INFO, TRACKS, CLUSTER, INFO));
        readsWith("INFO, a VOID between", 2, behind + VOID.length, HEAD, segment(TRACKS, CLUSTER, VOID, INFO));
        reads("INFO ahead of a CLUSTER", 1, HEAD, segment(TRACKS, INFO, CLUSTER));
    }

    private static void idOfClusterAheadOfTracks() {
        Checks.of(8, "a CLUSTER ahead of TRACKS");
        readsWith("first of all", 2, IN_SEGMENT, HEAD, segment(CLUSTER, TRACKS));
        readsWith("behind INFO", 2, IN_SEGMENT + INFO.length, HEAD, segment(INFO, CLUSTER));
        readsWith("with a wrong SIZE", 2, IN_SEGMENT, HEAD, segment(bytes("1F43B675 00")));
    }

    private static void idOfFile() {
        Checks.of(8, "SEGMENT ahead of HEAD, all but EC behind SEGMENT (a second HEAD ahead of it is TWICE)");
        readsWith("SEGMENT ahead of HEAD", 2, 0, segment(TRACKS), HEAD);
        readsWith("SEGMENT behind EC", 2, VOID.length, VOID, segment(TRACKS));
        readsWith("HEAD behind SEGMENT", 2, BEHIND_TRACKS, HEAD, segment(TRACKS), HEAD);
        readsWith("SEGMENT behind SEGMENT", 2, BEHIND_TRACKS, HEAD, segment(TRACKS), segment(TRACKS));
        readsWith("HEAD behind SEGMENT and EC", 2, BEHIND_TRACKS + VOID.length, HEAD, segment(TRACKS), VOID, HEAD);
        readsWith("CLUSTER behind SEGMENT", 2, BEHIND_TRACKS, HEAD, segment(TRACKS), CLUSTER);
        readsWith("a second HEAD", 4, HEAD.length, HEAD, HEAD, segment(TRACKS));
        readsWith("a second HEAD behind EC", 4, HEAD.length + VOID.length, HEAD, VOID, HEAD, segment(TRACKS));
        reads("EC behind SEGMENT", 0, HEAD, segment(TRACKS), VOID, VOID);
    }

    private static void idInUnknownCluster() {
        Checks.of(8, "in a CLUSTER of UNKNOWN SIZE any that isn't told for CLUSTERS but 1F43B675 in the SEGMENT");
        byte[] open = Checks.join(OPEN_CLUSTER, TIME, BLOCK);
        int behind = BEHIND_TRACKS + open.length;
        byte[][] others = {INFO, TRACKS, HEAD,
                segment(TRACKS), bytes("BF 80"), bytes("A1 84 81 0000 00"), bytes("9B 80")};
        for (byte[] other : others) {
            readsWith(Checks.hex(other), 2, behind, HEAD, segment(TRACKS, open, other));
            readsWith(Checks.hex(other), 2, behind, HEAD, OPEN_SEGMENT, TRACKS, open, other);
        }
        readsWith("1F43B675 in A0", 2, FIRST_BLOCK + 2, HEAD,
                segment(TRACKS, OPEN_CLUSTER, TIME, element("A0", CLUSTER)));
        readsWith("1F43B675 in a CLUSTER of known SIZE", 2, FIRST_BLOCK, HEAD, segment(TRACKS, cluster(CLUSTER)));
        readsWith("half an ID", 1, behind, HEAD, segment(TRACKS, open, bytes("1F43")));
        readsWith("the next one's SIZE", 3, behind, HEAD, segment(TRACKS, open, bytes("1F43B675 00")));
        readsWith("the next one's bytes", 1, behind, HEAD, segment(TRACKS, open, bytes("1F43B675 81")));
        readsWith("TRACKS behind the next one", 2, behind + CLUSTER.length, HEAD,
                segment(TRACKS, open, CLUSTER, TRACKS));
    }

    private static void idAheadOfSize() {
        Checks.of(8, "[Asked behind the ID, ahead of SIZE.]");
        readsWith("no SIZE", 2, 0, bytes("18538067"));
        readsWith("SIZE 00", 2, 0, bytes("18538067 00"));
        readsWith("half a SIZE", 2, HEAD.length, HEAD, bytes("BF 40"));
        readsWith("an UNKNOWN SIZE", 2, HEAD.length, HEAD, bytes("BF FF"));
        readsWith("too many bytes", 2, HEAD.length, HEAD, bytes("BF 85 00"));
        readsWith("half an ID is SHORT", 1, HEAD.length, HEAD, bytes("185380"));
        readsWith("second SEGMENT, no SIZE", 2, BEHIND_TRACKS, HEAD, segment(TRACKS), bytes("18538067"));
    }

    private static void sizeIsWrong(String length) {
        readsWith("HEAD's " + length, 3, 0, bytes("1A45DFA3" + length), NAME);
        readsWith("EC's " + length, 3, HEAD.length, HEAD, bytes("EC" + length), segment(TRACKS));
        readsWith("4282's " + length, 3, 5, element("1A45DFA3", bytes("4282" + length), NAME));
        readsWith("INFO's " + length, 3, IN_SEGMENT, HEAD, segment(bytes("1549A966" + length), TRACKS));
        readsWith("TRACKS' " + length, 3, IN_SEGMENT, HEAD, segment(bytes("1654AE6B" + length), TRACK));
        readsWith("AE's " + length, 3, IN_SEGMENT + 5, HEAD, segment(element("1654AE6B", bytes("AE" + length))));
        readsWith("E7's " + length, 3, IN_CLUSTER, HEAD, segment(TRACKS, element("1F43B675", bytes("E7" + length))));
        readsWith("A3's " + length, 3, FIRST_BLOCK, HEAD, segment(TRACKS, cluster(bytes("A3" + length))));
        readsWith("A0's " + length, 3, FIRST_BLOCK, HEAD, segment(TRACKS, cluster(bytes("A0" + length))));
        readsWith("A1's " + length, 3, FIRST_BLOCK + 2, HEAD,
                segment(TRACKS, cluster(element("A0", bytes("A1" + length)))));
    }

    private static void segmentAndClusterSizeIsWrong(String length) {
        readsWith("SEGMENT's " + length, 3, HEAD.length, HEAD, bytes("18538067" + length), TRACKS);
        readsWith("CLUSTER's " + length, 3, BEHIND_TRACKS, HEAD, segment(TRACKS, bytes("1F43B675" + length), TIME));
    }

    private static void sizeThatIsNone() {
        Checks.of(8, "3 SIZE: it begins with 00");
        sizeIsWrong("00");
        segmentAndClusterSizeIsWrong("00");
        segmentAndClusterSizeIsWrong("0000000000000001");
    }

    private static void sizeThatIsUnknown() {
        Checks.of(8, "is UNKNOWN where it may not");
        String[] unknown = {"FF", "7FFF", "3FFFFF", "1FFFFFFF", "0FFFFFFFFF", "07FFFFFFFFFF", "03FFFFFFFFFFFF",
            "01FFFFFFFFFFFFFF"};
        for (String length : unknown) {
            sizeIsWrong(length);
        }
    }

    private static void sizeThatIsTooHigh() {
        Checks.of(8, "or above 2 to the 31 less 1");
        String[] high = {"0880000000", "0FFFFFFFFE", "040080000000", "0100000080000000", "0100000100000000",
            "01FFFFFFFFFFFFFE"};
        for (String length : high) {
            sizeIsWrong(length);
            segmentAndClusterSizeIsWrong(length);
        }
        readsWith("2 to the 31 less 1 is SHORT", 1, 0, bytes("EC 087FFFFFFF"));
        readsWith("2 to the 31 less 1 of 8 bytes is SHORT", 1, 0, bytes("EC 010000007FFFFFFF"));
        readsWith("SEGMENT's", 1, HEAD.length, HEAD, bytes("18538067 087FFFFFFF"), TRACKS);
    }

    private static void shortBehindSize() {
        Checks.of(8, "(Then SHORT by its bytes.)");
        readsWith("SIZE ahead of SHORT by bytes", 3, 0, bytes("EC 0880000000"));
        readsWith("SHORT by SIZE ahead of SIZE", 1, 0, bytes("EC 08800000"));
        readsWith("SHORT by bytes ahead of TWICE", 1, HEAD.length, HEAD, bytes("1A45DFA3 81"));
        readsWith("SHORT by bytes ahead of VALUE", 1, 5, element("1A45DFA3", bytes("4286 82 07")));
        readsWith("SHORT by bytes ahead of MISSING", 1, IN_CLUSTER, HEAD,
                segment(TRACKS, element("1F43B675", bytes("A3 82 00"))));
    }

    private static void twice() {
        Checks.of(8, "4 TWICE.");
        String[] inHead = {"4286 81 01", "42F7 81 01", "42F2 81 04", "42F3 81 08", "4287 81 04", "4285 81 02"};
        for (String one : inHead) {
            byte[] made = bytes(one);
            readsWith(one, 4, 5 + NAME.length + made.length, element("1A45DFA3", made, NAME, made));
        }
        readsWith("4282", 4, 5 + NAME.length, element("1A45DFA3", NAME, NAME));
        readsWith("INFO", 4, IN_SEGMENT + INFO.length, HEAD, segment(INFO, INFO, TRACKS));
        readsWith("INFO, TRACKS between", 4, BEHIND_TRACKS + INFO.length, HEAD, segment(INFO, TRACKS, INFO));
        readsWith("TRACKS", 4, BEHIND_TRACKS, HEAD, segment(TRACKS, TRACKS));
        String[] inInfo = {"2AD7B1 81 01", "4D80 80", "5741 81 00"};
        for (String one : inInfo) {
            byte[] made = bytes(one);
            readsWith(one, 4, IN_SEGMENT + 5 + made.length, HEAD, segment(element("1549A966", made, made)));
        }
        readsWith("AE", 4, IN_SEGMENT + 5 + TRACK.length, HEAD, segment(element("1654AE6B", TRACK, TRACK)));
        String[] inTrack = {"D7 81 01", "83 81 02", "86 81 41", "73C5 81 01", "9C 81 00"};
        for (String one : inTrack) {
            byte[] made = bytes(one);
            readsWith(one, 4, IN_SEGMENT + 7 + made.length, HEAD, segment(tracks(made, made)));
        }
        readsWith("E7", 4, FIRST_BLOCK, HEAD, segment(TRACKS, cluster(TIME)));
        readsWith("E7 behind a block", 4, FIRST_BLOCK + BLOCK.length, HEAD, segment(TRACKS, cluster(BLOCK, TIME)));
        byte[] block = bytes("A1 84 81000000");
        byte[] duration = bytes("9B 81 05");
        readsWith("A1", 4, FIRST_BLOCK + 2 + block.length, HEAD, segment(TRACKS, cluster(element("A0", block, block))));
        readsWith("9B", 4, FIRST_BLOCK + 2 + duration.length, HEAD,
                segment(TRACKS, cluster(element("A0", duration, duration))));
    }

    private static void twiceInOrder() {
        Checks.of(8, "Of an ELEMENT, in this order");
        readsWith("SIZE ahead of TWICE", 3, HEAD.length, HEAD, bytes("1A45DFA3 FF"));
        readsWith("TWICE ahead of VALUE", 4, 5 + NAME.length, element("1A45DFA3", NAME, bytes("4282 80")));
        readsWith("TWICE ahead of a block's VALUE", 4, FIRST_BLOCK + 8, HEAD,
                segment(TRACKS, cluster(element("A0", bytes("A1 84 81000000"), bytes("A1 80")))));
        readsWith("TWICE ahead of MISSING", 4, HEAD.length, HEAD, bytes("1A45DFA3 80"));
        readsWith("TWICE ahead of what's in it", 4, BEHIND_TRACKS, HEAD, segment(TRACKS, bytes("1654AE6B 81 00")));
        readsWith("VALUE ahead of MANY", 5, FIRST_BLOCK, HEAD,
                segment(TRACKS, cluster(bytes("A3 86 81 0000 04 FF 01"))));
        byte[] full = bytes("A3 85 81 0000 04 3F");
        readsWith("VALUE ahead of MANY, LIST full", 5, FIRST_BLOCK + full.length, HEAD,
                segment(TRACKS, cluster(full, bytes("A3 84 82 0000 00"))));
        readsWith("MANY ahead of MISSING behind it", 6, FIRST_BLOCK + full.length, HEAD,
                segment(TRACKS, cluster(full, EMPTY_BLOCK), element("1F43B675")));
    }

    private static void valueOfShortBlocks() {
        Checks.of(8, "a block that is too short, or whose sizes don't come out");
        String[] wrong = {"", "81", "81 00", "81 0000", "40", "4001", "4001 0000", "01", "81 0000 02", "81 0000 04",
            "81 0000 06", "81 0000 02 01", "81 0000 06 01 40", "81 0000 04 01 05", "81 0000 06 02 81 BD 05 05"};
        for (String one : wrong) {
            byte[] simple = element("A3", bytes(one));
            byte[] grouped = element("A0", element("A1", bytes(one)));
            readsWith("A3 " + one, 5, FIRST_BLOCK, HEAD, segment(TRACKS, cluster(simple, BLOCK)));
            readsWith("A1 " + one, 5, FIRST_BLOCK + 2, HEAD, segment(TRACKS, cluster(grouped, BLOCK)));
            readsWith("A3 " + one + " at the end", 5, FIRST_BLOCK, HEAD, segment(TRACKS, cluster(simple)));
            readsWith("A1 " + one + " at the end", 5, FIRST_BLOCK + 2, HEAD, segment(TRACKS, cluster(grouped)));
        }
    }

    private static void manyPackets() {
        Checks.of(8, "6 MANY: a packet more than the LIST may have");
        byte[] full = bytes("A3 85 81 0000 04 3F");
        reads("64 packets", 64, HEAD, segment(TRACKS, cluster(full)));
        readsWith("65 packets", 6, FIRST_BLOCK, HEAD, segment(TRACKS, cluster(bytes("A3 85 81 0000 04 40"))));
        readsWith("256 packets", 6, FIRST_BLOCK, HEAD, segment(TRACKS, cluster(bytes("A3 85 81 0000 04 FF"))));
        readsWith("256 packets of a byte", 6, FIRST_BLOCK + 2, HEAD,
                segment(TRACKS, cluster(element("A3", bytes("81 0000 04 FF"), new byte[256]))));
        readsWith("packet 65", 6, FIRST_BLOCK + full.length, HEAD, segment(TRACKS, cluster(full, EMPTY_BLOCK)));
        readsWith("packet 65 in A0", 6, FIRST_BLOCK + full.length + 2, HEAD,
                segment(TRACKS, cluster(full, element("A0", bytes("A1 84 81 0000 00")))));
        byte[] most = bytes("A3 85 81 0000 04 3E");
        reads("packet 64 in another block", 64, HEAD, segment(TRACKS, cluster(most, EMPTY_BLOCK)));
        readsWith("packets 64 and 65", 6, FIRST_BLOCK + most.length, HEAD,
                segment(TRACKS, cluster(most, bytes("A3 85 81 0000 04 01"))));
        readsWith("packet 65 in another CLUSTER", 6, FIRST_BLOCK + full.length + 5 + TIME.length, HEAD,
                segment(TRACKS, cluster(full), cluster(EMPTY_BLOCK)));
    }

    private static void manyBytes() {
        Checks.of(8, "6 MANY: a packet more than the LIST may have, or its bytes.");
        int before = HEAD.length + 6 + TRACKS.length + 6 + TIME.length;
        byte[] most = element("A3", bytes("81 0000 00"), new byte[2400]);
        reads("2,400 bytes", 1, HEAD, segment(TRACKS, cluster(most)));
        readsWith("2,401 bytes", 6, before, HEAD,
                segment(TRACKS, cluster(element("A3", bytes("81 0000 00"), new byte[2401]))));
        reads("an empty one more", 2, HEAD, segment(TRACKS, cluster(most, EMPTY_BLOCK)));
        readsWith("a byte more", 6, before + most.length, HEAD,
                segment(TRACKS, cluster(most, bytes("A3 85 81 0000 00 01"))));
        byte[] laced = element("A3", bytes("81 0000 04 07"), new byte[2400]);
        reads("2,400 bytes of eight", 8, HEAD, segment(TRACKS, cluster(laced)));
        readsWith("2,408 bytes of eight", 6, before, HEAD,
                segment(TRACKS, cluster(element("A3", bytes("81 0000 04 07"), new byte[2408]))));
    }

    private static void missingInHeadAndTracks() {
        Checks.of(8, "7 MISSING, at its end, at the ELEMENT that lacks something: 4282; TRACKS in SEGMENT; "
                + "AE in TRACKS; D7, 83, 86");
        readsWith("4282", 7, VOID.length, VOID, element("1A45DFA3", bytes("4286 81 01")), bytes("00"));
        readsWith("4282, nothing", 7, 0, bytes("1A45DFA3 80"), segment(TRACKS));
        readsWith("TRACKS", 7, HEAD.length, HEAD, segment(INFO));
        readsWith("TRACKS, nothing", 7, HEAD.length, HEAD, segment());
        readsWith("AE", 7, IN_SEGMENT, HEAD, segment(element("1654AE6B", VOID)));
        readsWith("AE, nothing", 7, IN_SEGMENT, HEAD, segment(element("1654AE6B"), TRACKS));
        byte[] number = NUMBER;
        byte[] type = TYPE;
        byte[] codec = CODEC;
        byte[] others = bytes("73C5 81 01 9C 81 00");
        readsWith("D7", 7, IN_SEGMENT + 5, HEAD, segment(tracks(type, codec, others)));
        readsWith("83", 7, IN_SEGMENT + 5, HEAD, segment(tracks(number, codec, others)));
        readsWith("86", 7, IN_SEGMENT + 5, HEAD, segment(tracks(number, type, others)));
        readsWith("all three", 7, IN_SEGMENT + 5, HEAD, segment(tracks()));
    }

    private static void missingTime() {
        Checks.of(8, "E7 ahead of a block (at the block, asked ahead of its VALUE) or in a CLUSTER");
        readsWith("in a CLUSTER", 7, BEHIND_TRACKS, HEAD, segment(TRACKS, element("1F43B675", VOID)));
        readsWith("in the second", 7, BEHIND_TRACKS + CLUSTER.length, HEAD,
                segment(TRACKS, CLUSTER, element("1F43B675")));
        readsWith("in one of UNKNOWN SIZE", 7, BEHIND_TRACKS, HEAD, segment(TRACKS, OPEN_CLUSTER));
        readsWith("in one of UNKNOWN SIZE, another behind", 7, BEHIND_TRACKS, HEAD,
                segment(TRACKS, OPEN_CLUSTER, bytes("1F43B675 00")));
        readsWith("ahead of A3", 7, IN_CLUSTER, HEAD, segment(TRACKS, element("1F43B675", BLOCK, TIME)));
        readsWith("ahead of a wrong A3", 7, IN_CLUSTER, HEAD, segment(TRACKS, element("1F43B675", bytes("A3 80"))));
        readsWith("of another CLUSTER", 7, IN_CLUSTER + CLUSTER.length, HEAD,
                segment(TRACKS, CLUSTER, element("1F43B675", BLOCK)));
        readsWith("ahead of A1", 7, IN_CLUSTER + 2, HEAD,
                segment(TRACKS, element("1F43B675", element("A0", bytes("A1 84 81 0000 00")))));
        readsWith("ahead of a wrong A1", 7, IN_CLUSTER + 2, HEAD,
                segment(TRACKS, element("1F43B675", element("A0", bytes("A1 80")))));
        readsWith("SIZE of a block ahead of it", 3, IN_CLUSTER, HEAD,
                segment(TRACKS, element("1F43B675", bytes("A3 00"))));
        byte[] full = bytes("A3 85 81 0000 04 3F");
        readsWith("ahead of MANY", 7, IN_CLUSTER + TIME.length + full.length + 5, HEAD,
                segment(TRACKS, cluster(full), element("1F43B675", EMPTY_BLOCK)));
    }

    private static void missingBlock() {
        Checks.of(8, "A1 in A0");
        readsWith("9B alone", 7, FIRST_BLOCK, HEAD, segment(TRACKS, cluster(element("A0", bytes("9B 81 05")))));
        readsWith("nothing", 7, FIRST_BLOCK, HEAD, segment(TRACKS, cluster(bytes("A0 80"))));
        readsWith("EC alone", 7, FIRST_BLOCK + BLOCK.length, HEAD,
                segment(TRACKS, cluster(BLOCK, element("A0", VOID))));
        readsWith("ahead of E7", 7, IN_CLUSTER, HEAD, segment(TRACKS, element("1F43B675", bytes("A0 80"))));
    }

    private static void missingAtFileEnd() {
        Checks.of(8, "At the file's end (its length): HEAD, then SEGMENT.");
        readsWith("nothing at all", 7, 0);
        readsWith("HEAD", 7, VOID.length, VOID);
        readsWith("SEGMENT", 7, HEAD.length, HEAD);
        readsWith("SEGMENT, a VOID there", 7, HEAD.length + VOID.length, HEAD, VOID);
    }

    private static void missingComesLast() {
        Checks.of(8, "FAULTS as they are come to; the place is that of the ELEMENT's first byte.");
        readsWith("what's in HEAD ahead of 4282", 5, 5, element("1A45DFA3", bytes("4286 81 07")));
        readsWith("4282 ahead of what's behind HEAD", 7, 0, element("1A45DFA3", VOID), bytes("00"));
        readsWith("AE's ahead of TRACKS' second AE", 7, IN_SEGMENT + 5, HEAD,
                segment(element("1654AE6B", bytes("AE 80"), TRACK)));
        readsWith("A0's ahead of a wrong A3", 7, FIRST_BLOCK, HEAD, segment(TRACKS, cluster(bytes("A0 80 A3 80"))));
        readsWith("the first of two", 5, FIRST_BLOCK, HEAD, segment(TRACKS, cluster(bytes("A3 80 A3 00"))));
        readsWith("a CLUSTER's E7 ahead of the next one", 7, BEHIND_TRACKS, HEAD,
                segment(TRACKS, element("1F43B675"), bytes("00")));
    }
}
