/**
 * Takes one audio stream's packets out of two kinds of files, pages (Ogg) and elements (Matroska),
 * and puts them into them.
 *
 * <p>Bytes come in on a tape and go out by OUT; between them stands the LIST of packets. All rows
 * are made with the object and used again, so that no call makes anything.
 */
public final class StreamRemuxer {
    /** There is none. */
    public static final int NONE = -1;

    private static final int REFUSED = -2;
    private static final int MOST_FILE_BYTES = 6000;
    private static final int MOST_PACKETS = 64;
    private static final int MOST_LIST_BYTES = 2400;
    private static final long LAST_TIME = (1L << 40) - 1;

    private final Row tape;
    private final PageWriter pageWriter;
    private final PageReader pageReader;
    private final ElementWriter elementWriter;
    private final ElementReader elementReader;
    private Row outRow;
    private Row spareRow;
    private PacketList list;
    private PacketList spareList;
    private int fault;
    private int faultPlace;
    private int pagesRead;
    private int clustersRead;
    private int blocksRead;

    /** An empty tape, an empty LIST, an empty OUT. */
    public StreamRemuxer() {
        tape = new Row(MOST_FILE_BYTES);
        outRow = new Row(MOST_FILE_BYTES);
        spareRow = new Row(MOST_FILE_BYTES);
        list = new PacketList();
        spareList = new PacketList();
        pageWriter = new PageWriter();
        pageReader = new PageReader();
        elementWriter = new ElementWriter();
        elementReader = new ElementReader();
        fault = 0;
        faultPlace = NONE;
    }

    /** Twenty bytes more on the tape: how many there are, or NONE if they have no room. */
    public int feed(int a, int b, int c, int d, int e) {
        if (tape.length > MOST_FILE_BYTES - 20) {
            return NONE;
        }
        tape.addHighFirst(a, 4);
        tape.addHighFirst(b, 4);
        tape.addHighFirst(c, 4);
        tape.addHighFirst(d, 4);
        tape.addHighFirst(e, 4);
        return tape.length;
    }

    /** The tape's first n bytes as a PACKET more: how many there are, NONE if it has no room. */
    public int packet(int n, long time) {
        if (!isOnTape(n) || time < NONE || time > LAST_TIME) {
            return REFUSED;
        }
        boolean fits = list.hasRoom(1, n);
        if (fits) {
            list.bytes.addPart(tape, 0, n);
            list.endPacket(time);
        }
        tape.empty();
        return fits ? list.packets : NONE;
    }

    /** Empties the LIST: how many there were. */
    public int clear() {
        int before = list.packets;
        list.empty();
        return before;
    }

    /** The LIST as pages into OUT, with at most p packets' ends and s segments a page. */
    public int pages(int serial, int p, int s) {
        if (p < 1 || p > 20 || s < 1 || s > PageForm.MOST_SEGMENTS) {
            return REFUSED;
        }
        if (list.packets == 0 || !list.isInOrderOfTime()) {
            return NONE;
        }
        spareRow.empty();
        pageWriter.write(list, spareRow, serial, p, s);
        return takeSpareRow();
    }

    /** The LIST as elements into OUT, with at most b packets a block and c blocks a CLUSTER. */
    public int elements(int lace, int b, int c, boolean unknown) {
        if (lace < 0 || lace > 3 || b < 1 || b > 8 || c < 1 || c > 20) {
            return REFUSED;
        }
        spareRow.empty();
        elementWriter.write(list, spareRow, lace, lace == 0 ? 1 : b, c, unknown);
        return takeSpareRow();
    }

    /** The tape's first n bytes, read as pages: how many PACKETS the LIST has then, NONE: a FAULT. */
    public int readPages(int n) {
        if (!isOnTape(n)) {
            return REFUSED;
        }
        spareList.empty();
        pageReader.read(tape, n, spareList);
        fault = pageReader.fault;
        faultPlace = pageReader.place;
        pagesRead = fault == 0 ? pageReader.pageCount : 0;
        return takeSpareList();
    }

    /** The tape's first n bytes, read as elements: how many PACKETS the LIST has then, NONE: a FAULT. */
    public int readElements(int n) {
        if (!isOnTape(n)) {
            return REFUSED;
        }
        spareList.empty();
        elementReader.read(tape, n, spareList);
        fault = elementReader.fault;
        faultPlace = elementReader.place;
        clustersRead = fault == 0 ? elementReader.clusters : 0;
        blocksRead = fault == 0 ? elementReader.blocks : 0;
        return takeSpareList();
    }

    /** Of the latest reading: 0 its FAULT, 1 its place. */
    public int wrong(int what) {
        switch (what) {
            case 0:
                return fault;
            case 1:
                return faultPlace;
            default:
                return NONE;
        }
    }

    /** OUT in place of what was on the tape: how many bytes. */
    public int turn() {
        tape.becomeLike(outRow);
        return tape.length;
    }

    /** How many there are of what is asked for by number. */
    public int count(int what) {
        switch (what) {
            case 0:
                return list.packets;
            case 1:
                return list.bytes.length;
            case 2:
                return outRow.length;
            case 3:
                return tape.length;
            case 4:
                return pagesRead;
            case 5:
                return clustersRead;
            case 6:
                return blocksRead;
            default:
                return NONE;
        }
    }

    /** The bytes of PACKET i. */
    public int size(int i) {
        return list.bytesOf(i);
    }

    /** The TIME of PACKET i. */
    public long time(int i) {
        return list.timeOf(i);
    }

    /** Byte k of PACKET i. */
    public int octet(int i, int k) {
        return list.byteOf(i, k);
    }

    /** Byte k of OUT. */
    public int out(int k) {
        return outRow.at(k);
    }

    /** Byte k of the tape becomes v: whether there is one. */
    public boolean patch(int k, int v) {
        return tape.change(k, v);
    }

    /** Makes the SUM right of the page at place k of the tape: whether one is there. */
    public boolean sum(int k) {
        if (k < 0 || !PageForm.isMarked(tape, k)) {
            return false;
        }
        int end = PageForm.endOf(tape, k, tape.length);
        if (end == NONE) {
            return false;
        }
        PageForm.makeSumRight(tape, k, end);
        return true;
    }

    private boolean isOnTape(int n) {
        return n >= 0 && n <= tape.length;
    }

    private int takeSpareRow() {
        if (spareRow.overfull) {
            return NONE;
        }
        Row before = outRow;
        outRow = spareRow;
        spareRow = before;
        return outRow.length;
    }

    /** Ends a reading: the tape is empty, and what was read is the LIST if there was no FAULT. */
    private int takeSpareList() {
        tape.empty();
        if (fault != 0) {
            return NONE;
        }
        PacketList before = list;
        list = spareList;
        spareList = before;
        return list.packets;
    }

    /**
     * A row of bytes with a limit: what would go beyond it is left out, and makes it overfull. Four
     * bytes share an int, so that a run that makes an object with each call stays small, too.
     */
    private static final class Row {
        private final int[] words;
        private final int most;
        int length;
        boolean overfull;

        Row(int limit) {
            most = Math.max(limit, 0);
            words = new int[most / 4 + 1];
        }

        void empty() {
            length = 0;
            overfull = false;
        }

        int at(int k) {
            if (k < 0 || k >= length) {
                return NONE;
            }
            return words[k >> 2] >>> (8 * (k & 3)) & 255;
        }

        boolean change(int k, int v) {
            if (k < 0 || k >= length) {
                return false;
            }
            int shift = 8 * (k & 3);
            words[k >> 2] = words[k >> 2] & ~(255 << shift) | (v & 255) << shift;
            return true;
        }

        void add(int v) {
            if (length >= most) {
                overfull = true;
                return;
            }
            length++;
            change(length - 1, v);
        }

        void addHighFirst(long number, int width) {
            for (int i = width - 1; i >= 0; i--) {
                add((int) (number >>> (8 * i)));
            }
        }

        void addLowFirst(long number, int width) {
            for (int i = 0; i < width; i++) {
                add((int) (number >>> (8 * i)));
            }
        }

        void addEach(int[] values) {
            for (int i = 0; i < values.length; i++) {
                add(values[i]);
            }
        }

        void addPart(Row source, int from, int howMany) {
            for (int i = 0; i < howMany; i++) {
                add(source.at(from + i));
            }
        }

        void becomeLike(Row other) {
            System.arraycopy(other.words, 0, words, 0, Math.min(other.words.length, words.length));
            length = Math.min(other.length, most);
            overfull = other.length > most;
        }

        long highFirst(int from, int width) {
            long number = 0;
            for (int i = 0; i < width; i++) {
                number = number << 8 | at(from + i) & 255;
            }
            return number;
        }

        long lowFirst(int from, int width) {
            long number = 0;
            for (int i = width - 1; i >= 0; i--) {
                number = number << 8 | at(from + i) & 255;
            }
            return number;
        }
    }

    /** The LIST: packets' bytes one behind another; those behind the last end are of an open one. */
    private static final class PacketList {
        final Row bytes = new Row(MOST_LIST_BYTES);
        final int[] ends = new int[MOST_PACKETS];
        final long[] times = new long[MOST_PACKETS];
        int packets;

        void empty() {
            packets = 0;
            bytes.empty();
        }

        boolean holds(int i) {
            return i >= 0 && i < packets;
        }

        int beginOf(int i) {
            return holds(i - 1) ? ends[i - 1] : 0;
        }

        int bytesOf(int i) {
            return holds(i) ? ends[i] - beginOf(i) : NONE;
        }

        int byteOf(int i, int k) {
            if (k < 0 || k >= bytesOf(i)) {
                return NONE;
            }
            return bytes.at(beginOf(i) + k);
        }

        long timeOf(int i) {
            return holds(i) ? times[i] : NONE;
        }

        /** The TIME that a writer needs: its own, or that of the nearest one ahead, or 0. */
        long timeToWrite(int i) {
            for (int j = i; j >= 0; j--) {
                if (timeOf(j) != NONE) {
                    return timeOf(j);
                }
            }
            return 0;
        }

        boolean isInOrderOfTime() {
            long highest = NONE;
            for (int i = 0; i < packets; i++) {
                if (timeOf(i) != NONE && timeOf(i) < highest) {
                    return false;
                }
                highest = Math.max(highest, timeOf(i));
            }
            return true;
        }

        boolean hasRoom(int morePackets, int moreBytes) {
            return morePackets <= MOST_PACKETS - packets && moreBytes <= MOST_LIST_BYTES - bytes.length;
        }

        void endPacket(long time) {
            if (packets >= MOST_PACKETS) {
                return;
            }
            ends[packets] = bytes.length;
            times[packets] = time;
            packets++;
        }
    }

    /** What writing, reading and mending of pages share: where things stand in a page, and its SUM. */
    private static final class PageForm {
        static final int MARK = 0x4F676753;
        static final int FLAGS_PLACE = 5;
        static final int TIME_PLACE = 6;
        static final int SERIAL_PLACE = 14;
        static final int NUMBER_PLACE = 18;
        static final int SUM_PLACE = 22;
        static final int SEGMENTS_PLACE = 26;
        static final int HEADER = 27;
        static final int MOST_SEGMENTS = 255;
        static final int FULL_SEGMENT = 255;
        static final int GOES_ON = 1;
        static final int FIRST = 2;
        static final int LAST = 4;

        /** What four shifts make of the four bits that they push out: eight single ones cost more. */
        private static final int[] FOUR_SHIFTS = {
            0x00000000, 0x04C11DB7, 0x09823B6E, 0x0D4326D9,
            0x130476DC, 0x17C56B6B, 0x1A864DB2, 0x1E475005,
            0x2608EDB8, 0x22C9F00F, 0x2F8AD6D6, 0x2B4BCB61,
            0x350C9B64, 0x31CD86D3, 0x3C8EA00A, 0x384FBDBD,
        };

        static boolean isMarked(Row row, int page) {
            return (int) row.highFirst(page, 4) == MARK;
        }

        /** The place behind the page, NONE if it is not all there ahead of the limit. */
        static int endOf(Row row, int page, int limit) {
            if (page < 0 || limit - page < HEADER) {
                return NONE;
            }
            int segments = row.at(page + SEGMENTS_PLACE);
            int end = page + HEADER + segments;
            if (end > limit) {
                return NONE;
            }
            for (int i = 0; i < segments; i++) {
                end += row.at(page + HEADER + i);
            }
            return end <= limit ? end : NONE;
        }

        static int sumOf(Row row, int page, int end) {
            int r = 0;
            for (int k = page; k < end; k++) {
                boolean inSum = k >= page + SUM_PLACE && k < page + SUM_PLACE + 4;
                int octet = inSum ? 0 : row.at(k);
                r = r << 4 ^ FOUR_SHIFTS[(r >>> 28 ^ octet >> 4) & 15];
                r = r << 4 ^ FOUR_SHIFTS[(r >>> 28 ^ octet) & 15];
            }
            return r;
        }

        static void makeSumRight(Row row, int page, int end) {
            int sum = sumOf(row, page, end);
            for (int i = 0; i < 4; i++) {
                row.change(page + SUM_PLACE + i, sum >>> (8 * i));
            }
        }
    }

    /** Writes the LIST as pages, segment by segment. */
    private static final class PageWriter {
        private final int[] segmentSizes = new int[PageForm.MOST_SEGMENTS];
        private PacketList source;
        private Row target;
        private int serial;
        private int number;
        private int segments;
        private int packetsEnded;
        private int lastEnded;
        private int written;
        private boolean goesOn;

        void write(PacketList packets, Row row, int serialNumber, int mostPackets, int mostSegments) {
            source = packets;
            target = row;
            serial = serialNumber;
            number = 0;
            written = 0;
            goesOn = false;
            beginPage();
            for (int i = 0; i < source.packets; i++) {
                int full = source.bytesOf(i) / PageForm.FULL_SEGMENT;
                for (int j = 0; j < full; j++) {
                    addSegment(PageForm.FULL_SEGMENT);
                    if (segments >= mostSegments) {
                        endPage(false, true);
                    }
                }
                addSegment(source.bytesOf(i) - full * PageForm.FULL_SEGMENT);
                packetsEnded++;
                lastEnded = i;
                boolean last = i == source.packets - 1;
                if (last || i == 0 || segments >= mostSegments || packetsEnded >= mostPackets) {
                    endPage(last, false);
                }
            }
        }

        private void beginPage() {
            segments = 0;
            packetsEnded = 0;
            lastEnded = NONE;
        }

        private void addSegment(int howMany) {
            if (segments < segmentSizes.length) {
                segmentSizes[segments] = howMany;
                segments++;
            }
        }

        private void endPage(boolean last, boolean packetIsOpen) {
            int page = target.length;
            putHeader(last);
            int end = written;
            for (int i = 0; i < segments; i++) {
                target.add(segmentSizes[i]);
                end += segmentSizes[i];
            }
            target.addPart(source.bytes, written, end - written);
            PageForm.makeSumRight(target, page, target.length);
            written = end;
            number++;
            goesOn = packetIsOpen;
            beginPage();
        }

        private void putHeader(boolean last) {
            int flags = goesOn ? PageForm.GOES_ON : 0;
            flags |= number == 0 ? PageForm.FIRST : 0;
            flags |= last ? PageForm.LAST : 0;
            target.addHighFirst(PageForm.MARK, 4);
            target.add(0);
            target.add(flags);
            target.addLowFirst(lastEnded == NONE ? NONE : source.timeToWrite(lastEnded), 8);
            target.addLowFirst(serial, 4);
            target.addLowFirst(number, 4);
            target.addLowFirst(0, 4);
            target.add(segments);
        }
    }

    /** Reads pages into a list of packets, up to the first FAULT. */
    private static final class PageReader {
        private static final int SHORT = 1;
        private static final int MARK = 2;
        private static final int FORM = 3;
        private static final int SUM = 4;
        private static final int ORDER = 5;
        private static final int PACKET = 6;
        private static final int TIME = 7;
        private static final int MANY = 8;
        private static final int HIGHEST_FLAGS = 7;

        int fault;
        int place;
        int pageCount;
        private Row file;
        private int limit;
        private PacketList target;
        private boolean packetIsOpen;
        private boolean lastWasRead;
        private int serial;
        private long latestTime;

        void read(Row tape, int n, PacketList packets) {
            file = tape;
            limit = n;
            target = packets;
            pageCount = 0;
            packetIsOpen = false;
            lastWasRead = false;
            latestTime = 0;
            fault = 0;
            int at = 0;
            for (int step = 0; step < limit && at < limit && fault == 0; step++) {
                place = at;
                fault = faultOf(at);
                if (fault == 0) {
                    at = takePage(at);
                }
            }
            if (fault == 0) {
                place = limit;
                fault = faultAtEnd();
            }
            if (fault == 0) {
                place = NONE;
            }
        }

        private int faultAtEnd() {
            if (pageCount == 0) {
                return SHORT;
            }
            if (!lastWasRead) {
                return ORDER;
            }
            return packetIsOpen ? PACKET : 0;
        }

        private int faultOf(int page) {
            if (limit - page < PageForm.HEADER) {
                return SHORT;
            }
            if (!PageForm.isMarked(file, page)) {
                return MARK;
            }
            int flags = file.at(page + PageForm.FLAGS_PLACE);
            if (file.at(page + 4) != 0 || flags > HIGHEST_FLAGS) {
                return FORM;
            }
            int end = PageForm.endOf(file, page, limit);
            if (end == NONE) {
                return SHORT;
            }
            if (PageForm.sumOf(file, page, end) != numberAt(page + PageForm.SUM_PLACE)) {
                return SUM;
            }
            if (isOutOfOrder(page, flags)) {
                return ORDER;
            }
            if ((flags & PageForm.GOES_ON) != 0 != packetIsOpen) {
                return PACKET;
            }
            int ending = packetsEnding(page);
            if (isTimeWrong(file.lowFirst(page + PageForm.TIME_PLACE, 8), ending)) {
                return TIME;
            }
            int body = page + PageForm.HEADER + file.at(page + PageForm.SEGMENTS_PLACE);
            return target.hasRoom(ending, end - body) ? 0 : MANY;
        }

        private int numberAt(int from) {
            return (int) file.lowFirst(from, 4);
        }

        private boolean isOutOfOrder(int page, int flags) {
            boolean saysFirst = (flags & PageForm.FIRST) != 0;
            if (lastWasRead || saysFirst != (pageCount == 0)) {
                return true;
            }
            if (numberAt(page + PageForm.NUMBER_PLACE) != pageCount) {
                return true;
            }
            return pageCount > 0 && numberAt(page + PageForm.SERIAL_PLACE) != serial;
        }

        private int packetsEnding(int page) {
            int segments = file.at(page + PageForm.SEGMENTS_PLACE);
            int ending = 0;
            for (int i = 0; i < segments; i++) {
                if (file.at(page + PageForm.HEADER + i) < PageForm.FULL_SEGMENT) {
                    ending++;
                }
            }
            return ending;
        }

        private boolean isTimeWrong(long time, int ending) {
            if (ending == 0) {
                return time != NONE;
            }
            return time < latestTime || time > LAST_TIME;
        }

        /** Takes the packets of a page without a FAULT: the place behind it. */
        private int takePage(int page) {
            int segments = file.at(page + PageForm.SEGMENTS_PLACE);
            int left = packetsEnding(page);
            long time = file.lowFirst(page + PageForm.TIME_PLACE, 8);
            latestTime = left > 0 ? time : latestTime;
            int at = page + PageForm.HEADER + segments;
            for (int i = 0; i < segments; i++) {
                int howMany = file.at(page + PageForm.HEADER + i);
                target.bytes.addPart(file, at, howMany);
                at += howMany;
                packetIsOpen = howMany == PageForm.FULL_SEGMENT;
                if (!packetIsOpen) {
                    left--;
                    target.endPacket(left == 0 ? time : NONE);
                }
            }
            lastWasRead = (file.at(page + PageForm.FLAGS_PLACE) & PageForm.LAST) != 0;
            serial = numberAt(page + PageForm.SERIAL_PLACE);
            pageCount++;
            return at;
        }
    }

    /** The IDs that writing and reading of elements share, and the LACINGs. */
    private static final class ElementForm {
        static final int SEGMENT = 0x18538067;
        static final int CLUSTER = 0x1F43B675;
        static final int CLUSTER_TIME = 0xE7;
        static final int SIMPLE_BLOCK = 0xA3;
        static final int NO_LACING = 0;
        static final int LACING_BY_SUMS = 1;
        static final int LACING_OF_SAME = 2;
        static final int LACING_BY_DIFFERENCES = 3;
        static final int MOST_SIZE_WIDTH = 8;

        /** The highest number of a SIZE so wide; one more, all bits 1, is UNKNOWN. */
        static long highestSize(int width) {
            return (1L << (7 * width)) - 2;
        }

        /** What is added to a difference in a SIZE so wide, so that it is 0 or more. */
        static long differenceShift(int width) {
            return (1L << (7 * width - 1)) - 1;
        }
    }

    /** Writes the LIST as elements. */
    private static final class ElementWriter {
        private static final int[] HEAD_BYTES = {
            0x1A, 0x45, 0xDF, 0xA3, 0xA3,
            0x42, 0x86, 0x81, 0x01,
            0x42, 0xF7, 0x81, 0x01,
            0x42, 0xF2, 0x81, 0x04,
            0x42, 0xF3, 0x81, 0x08,
            0x42, 0x82, 0x88, 'm', 'a', 't', 'r', 'o', 's', 'k', 'a',
            0x42, 0x87, 0x81, 0x04,
            0x42, 0x85, 0x81, 0x02,
        };
        private static final int[] INFO_BYTES = {
            0x15, 0x49, 0xA9, 0x66, 0x8F,
            0x2A, 0xD7, 0xB1, 0x83, 0x0F, 0x42, 0x40,
            0x4D, 0x80, 0x81, 0x61,
            0x57, 0x41, 0x81, 0x61,
        };
        private static final int[] TRACKS_BYTES_TO_LACING = {
            0x16, 0x54, 0xAE, 0x6B, 0x97, 0xAE, 0x95,
            0xD7, 0x81, 0x01,
            0x73, 0xC5, 0x81, 0x01,
            0x83, 0x81, 0x02,
            0x9C, 0x81,
        };
        private static final int[] TRACKS_BYTES_BEHIND = {
            0x86, 0x86, 'A', '_', 'O', 'P', 'U', 'S',
        };
        private static final int UNKNOWN_SIZE = 0xFF;
        private static final int LONG_SIZE_WIDTH = 4;
        private static final int BLOCK_NUMBER = 0x81;
        private static final int KEY_FRAME = 0x80;
        private static final int MOST_BLOCK_HEADER = 64;

        private final Row blockHeader = new Row(MOST_BLOCK_HEADER);
        private PacketList source;
        private Row target;
        private int lace;
        private int mostPackets;
        private boolean unknownSizes;

        void write(PacketList packets, Row row, int lacing, int packetsABlock, int blocksACluster, boolean unknown) {
            source = packets;
            target = row;
            lace = lacing;
            mostPackets = packetsABlock;
            unknownSizes = unknown;
            target.addEach(HEAD_BYTES);
            int segment = beginLongElement(ElementForm.SEGMENT);
            target.addEach(INFO_BYTES);
            target.addEach(TRACKS_BYTES_TO_LACING);
            target.add(lace > 0 ? 1 : 0);
            target.addEach(TRACKS_BYTES_BEHIND);
            putClusters(blocksACluster);
            endLongElement(segment);
        }

        private void putClusters(int mostBlocks) {
            int cluster = NONE;
            long base = 0;
            int blocks = 0;
            int next = 0;
            for (int step = 0; step < source.packets && next < source.packets; step++) {
                long time = source.timeToWrite(next);
                if (cluster == NONE || blocks >= mostBlocks || !fitsBlock(time - base)) {
                    endLongElement(cluster);
                    cluster = beginLongElement(ElementForm.CLUSTER);
                    base = time;
                    blocks = 0;
                    putClusterTime(base);
                }
                int taken = packetsOfBlock(next);
                putBlock(next, taken, time - base);
                blocks++;
                next += taken;
            }
            endLongElement(cluster);
        }

        private static boolean fitsBlock(long difference) {
            return difference >= -32768 && difference <= 32767;
        }

        /** Begins an element whose SIZE is not known yet: the place of its bytes. */
        private int beginLongElement(int id) {
            target.addHighFirst(id, 4);
            if (unknownSizes) {
                target.add(UNKNOWN_SIZE);
            } else {
                target.addHighFirst(0, LONG_SIZE_WIDTH);
            }
            return target.length;
        }

        private void endLongElement(int body) {
            if (body == NONE || unknownSizes) {
                return;
            }
            int marked = 0x10000000 | (target.length - body);
            for (int i = 0; i < LONG_SIZE_WIDTH; i++) {
                target.change(body - 1 - i, marked >>> (8 * i));
            }
        }

        private void putClusterTime(long time) {
            int width = 1;
            for (int more = 2; more <= 8; more++) {
                if (time >>> (8 * (more - 1)) != 0) {
                    width = more;
                }
            }
            target.add(ElementForm.CLUSTER_TIME);
            putSize(target, width);
            target.addHighFirst(time, width);
        }

        private int packetsOfBlock(int first) {
            int taken = 1;
            for (int i = first + 1; i < source.packets && taken < mostPackets; i++) {
                if (lace == ElementForm.LACING_OF_SAME && source.bytesOf(i) != source.bytesOf(first)) {
                    break;
                }
                taken++;
            }
            return taken;
        }

        private void putBlock(int first, int taken, long difference) {
            int lacing = taken == 1 ? ElementForm.NO_LACING : lace;
            blockHeader.empty();
            blockHeader.add(BLOCK_NUMBER);
            blockHeader.addHighFirst(difference, 2);
            blockHeader.add(KEY_FRAME | lacing << 1);
            if (lacing != ElementForm.NO_LACING) {
                blockHeader.add(taken - 1);
            }
            for (int i = first; i < first + taken - 1; i++) {
                if (lacing == ElementForm.LACING_BY_SUMS) {
                    putSummedSize(source.bytesOf(i));
                } else if (lacing == ElementForm.LACING_BY_DIFFERENCES && i == first) {
                    putSize(blockHeader, source.bytesOf(i));
                } else if (lacing == ElementForm.LACING_BY_DIFFERENCES) {
                    putDifference(source.bytesOf(i) - source.bytesOf(i - 1));
                }
            }
            int from = source.beginOf(first);
            int howMany = source.beginOf(first + taken) - from;
            target.add(ElementForm.SIMPLE_BLOCK);
            putSize(target, blockHeader.length + howMany);
            target.addPart(blockHeader, 0, blockHeader.length);
            target.addPart(source.bytes, from, howMany);
        }

        private void putSummedSize(int howMany) {
            int full = howMany / 255;
            for (int i = 0; i < full; i++) {
                blockHeader.add(255);
            }
            blockHeader.add(howMany - 255 * full);
        }

        private void putDifference(long difference) {
            int width = 1;
            while (width < ElementForm.MOST_SIZE_WIDTH && Math.abs(difference) > ElementForm.differenceShift(width)) {
                width++;
            }
            long number = difference + ElementForm.differenceShift(width);
            blockHeader.addHighFirst(1L << (7 * width) | number, width);
        }

        private static void putSize(Row row, long number) {
            int width = 1;
            while (width < ElementForm.MOST_SIZE_WIDTH && number > ElementForm.highestSize(width)) {
                width++;
            }
            row.addHighFirst(1L << (7 * width) | number, width);
        }
    }

    /** An element in which others stand, while it is read. */
    private static final class Level {
        int id;
        int missingPlace;
        int end;
        int seen;
        boolean tillCluster;
    }

    /** Reads elements into a list of packets, up to the first FAULT. */
    private static final class ElementReader {
        private static final int SHORT = 1;
        private static final int ID = 2;
        private static final int SIZE = 3;
        private static final int TWICE = 4;
        private static final int VALUE = 5;
        private static final int MANY = 6;
        private static final int MISSING = 7;

        private static final int ANYWHERE = -1;
        private static final int FILE = 0;
        private static final int HEAD = 0x1A45DFA3;
        private static final int SEGMENT = ElementForm.SEGMENT;
        private static final int INFO = 0x1549A966;
        private static final int TRACKS = 0x1654AE6B;
        private static final int TRACK = 0xAE;
        private static final int TRACK_NUMBER = 0xD7;
        private static final int CLUSTER = ElementForm.CLUSTER;
        private static final int GROUP = 0xA0;

        private static final int OFTEN = 0;
        private static final int AT_MOST_ONCE = 1;
        private static final int ONCE = 2;

        private static final int MASTER = 0;
        private static final int UINT = 1;
        private static final int BYTES = 2;
        private static final int NAME = 3;
        private static final int BLOCK = 4;

        private static final long LAST_UINT = (1L << 62) - 1;
        private static final long LAST_SIZE = (1L << 31) - 1;
        private static final int MOST_UINT_WIDTH = 8;
        private static final int MOST_ID_WIDTH = 4;
        private static final int MOST_LACED = 256;
        private static final int MOST_LEVELS = 5;
        /** An element has two bytes at least, and is opened and closed once. */
        private static final int MOST_STEPS = 2 * MOST_FILE_BYTES;
        private static final String DOCUMENT_NAME = "matroska";

        /** A row each: ID, that in which it stands, how often, form, least and most (number, or bytes). */
        private static final long[] TOLD = {
            0xEC, ANYWHERE, OFTEN, BYTES, 0, LAST_SIZE,
            HEAD, FILE, ONCE, MASTER, 0, 0,
            0x4286, HEAD, AT_MOST_ONCE, UINT, 1, 1,
            0x42F7, HEAD, AT_MOST_ONCE, UINT, 1, 1,
            0x42F2, HEAD, AT_MOST_ONCE, UINT, 4, 4,
            0x42F3, HEAD, AT_MOST_ONCE, UINT, 8, 8,
            0x4282, HEAD, ONCE, NAME, 0, 0,
            0x4287, HEAD, AT_MOST_ONCE, UINT, 1, 4,
            0x4285, HEAD, AT_MOST_ONCE, UINT, 1, 4,
            SEGMENT, FILE, ONCE, MASTER, 0, 0,
            INFO, SEGMENT, AT_MOST_ONCE, MASTER, 0, 0,
            0x2AD7B1, INFO, AT_MOST_ONCE, UINT, 1, LAST_UINT,
            0x4D80, INFO, AT_MOST_ONCE, BYTES, 0, LAST_SIZE,
            0x5741, INFO, AT_MOST_ONCE, BYTES, 0, LAST_SIZE,
            TRACKS, SEGMENT, ONCE, MASTER, 0, 0,
            TRACK, TRACKS, ONCE, MASTER, 0, 0,
            TRACK_NUMBER, TRACK, ONCE, UINT, 1, 126,
            0x83, TRACK, ONCE, UINT, 2, 2,
            0x86, TRACK, ONCE, BYTES, 1, LAST_SIZE,
            0x73C5, TRACK, AT_MOST_ONCE, UINT, 1, LAST_UINT,
            0x9C, TRACK, AT_MOST_ONCE, UINT, 0, 1,
            CLUSTER, SEGMENT, OFTEN, MASTER, 0, 0,
            ElementForm.CLUSTER_TIME, CLUSTER, ONCE, UINT, 0, LAST_TIME,
            ElementForm.SIMPLE_BLOCK, CLUSTER, OFTEN, BLOCK, 0, 0,
            GROUP, CLUSTER, OFTEN, MASTER, 0, 0,
            0xA1, GROUP, ONCE, BLOCK, 0, 0,
            0x9B, GROUP, AT_MOST_ONCE, UINT, 0, LAST_UINT,
        };
        private static final int COLUMNS = 6;
        private static final int ROWS = 27;
        private static final int PARENT = 1;
        private static final int HOW_OFTEN = 2;
        private static final int KIND = 3;
        private static final int LEAST = 4;
        private static final int MOST = 5;

        int fault;
        int place;
        int clusters;
        int blocks;
        private final int[] lacedSizes = new int[MOST_LACED];
        private final Level[] levels = new Level[MOST_LEVELS];
        private int depth;
        private Row file;
        private PacketList target;
        private long trackNumber;
        private long clusterTime;
        private long bodySize;
        private int lacingAt;

        ElementReader() {
            for (int i = 0; i < levels.length; i++) {
                levels[i] = new Level();
            }
        }

        void read(Row tape, int n, PacketList packets) {
            file = tape;
            target = packets;
            fault = 0;
            place = NONE;
            clusters = 0;
            blocks = 0;
            trackNumber = NONE;
            clusterTime = NONE;
            depth = 0;
            int at = openLevel(FILE, n, 0, n);
            for (int step = 0; step < MOST_STEPS && at != NONE && depth > 0 && depth <= levels.length; step++) {
                Level inside = levels[depth - 1];
                at = at < inside.end ? readElement(inside, at) : closeLevel(inside, at);
            }
        }

        private int fail(int kind, int where) {
            fault = kind;
            place = where;
            return NONE;
        }

        /** What follows stands in an element up to its end: the place of the first byte of that. */
        private int openLevel(int id, int missingPlace, int from, int end) {
            if (depth >= levels.length) {
                return fail(ID, missingPlace);
            }
            Level opened = levels[depth];
            opened.id = id;
            opened.missingPlace = missingPlace;
            opened.end = end;
            opened.seen = 0;
            opened.tillCluster = false;
            depth++;
            if (id == CLUSTER) {
                opened.tillCluster = bodySize == NONE;
                clusters++;
                clusterTime = NONE;
            }
            return from;
        }

        /** What follows stands behind the element: its place, NONE if the element lacks something. */
        private int closeLevel(Level inside, int at) {
            if (lacksSome(inside.id, inside.seen)) {
                return fail(MISSING, inside.missingPlace);
            }
            depth--;
            return at;
        }

        /** Reads an element as far as others in it, or to its end: the place behind, NONE: a FAULT. */
        private int readElement(Level inside, int at) {
            int id = readId(at, inside.end);
            if (id == NONE) {
                return NONE;
            }
            if (inside.tillCluster && id == CLUSTER) {
                return closeLevel(inside, at);
            }
            int row = rowOf(id, inside.id);
            if (row == NONE || !mayStand(id, inside.seen)) {
                return fail(ID, at);
            }
            int body = readSize(at, at + markedWidth(file.at(at)), inside.end, id);
            if (body == NONE) {
                return NONE;
            }
            if (column(row, HOW_OFTEN) != OFTEN && (inside.seen >> row & 1) != 0) {
                return fail(TWICE, at);
            }
            inside.seen |= 1 << row;
            int end = bodySize == NONE ? inside.end : body + (int) bodySize;
            switch ((int) column(row, KIND)) {
                case MASTER:
                    return openLevel(id, at, body, end);
                case UINT:
                    return readUint(row, at, body, end);
                case NAME:
                    return isDocumentName(body, end) ? end : fail(VALUE, at);
                case BLOCK:
                    return readBlock(id, at, body, end);
                default:
                    return end - body >= column(row, LEAST) ? end : fail(VALUE, at);
            }
        }

        private static long column(int row, int which) {
            int k = row * COLUMNS + which;
            return k >= 0 && k < TOLD.length ? TOLD[k] : NONE;
        }

        private static int rowOf(int id, int parent) {
            for (int row = 0; row < ROWS; row++) {
                if (column(row, 0) == id) {
                    long where = column(row, PARENT);
                    return where == ANYWHERE || where == parent ? row : NONE;
                }
            }
            return NONE;
        }

        private static boolean lacksSome(int parent, int seen) {
            for (int row = 0; row < ROWS; row++) {
                boolean needed = column(row, PARENT) == parent && column(row, HOW_OFTEN) == ONCE;
                if (needed && (seen >> row & 1) == 0) {
                    return true;
                }
            }
            return false;
        }

        /** Whether what was seen beside it lets an element stand here. */
        private static boolean mayStand(int id, int seen) {
            switch (id) {
                case HEAD:
                    return !isSeen(SEGMENT, FILE, seen);
                case SEGMENT:
                    return isSeen(HEAD, FILE, seen) && !isSeen(SEGMENT, FILE, seen);
                case INFO:
                case TRACKS:
                    return !isSeen(CLUSTER, SEGMENT, seen);
                case CLUSTER:
                    return isSeen(TRACKS, SEGMENT, seen);
                default:
                    return true;
            }
        }

        private static boolean isSeen(int id, int parent, int seen) {
            int row = rowOf(id, parent);
            return row != NONE && (seen >> row & 1) != 0;
        }

        /** How many bytes a first byte tells by its highest bit 1; 0 if it has none. */
        private static int markedWidth(int first) {
            for (int width = 1; width <= 8; width++) {
                if ((first & 0x100 >> width) != 0) {
                    return width;
                }
            }
            return 0;
        }

        private int readId(int at, int end) {
            int width = markedWidth(file.at(at));
            if (width == 0 || width > MOST_ID_WIDTH) {
                return fail(ID, at);
            }
            if (width > end - at) {
                return fail(SHORT, at);
            }
            return (int) file.highFirst(at, width);
        }

        /** The bytes of the SIZE at a place; 0: it begins with 00; NONE: it goes beyond the end. */
        private int sizeWidth(int from, int end) {
            if (from >= end) {
                return NONE;
            }
            int width = markedWidth(file.at(from));
            return width > end - from ? NONE : width;
        }

        /** The number of the SIZE at a place, NONE if it's UNKNOWN. */
        private long sizeNumber(int from, int width) {
            long number = file.at(from) & 255 >> width;
            for (int i = 1; i < width; i++) {
                number = number << 8 | file.at(from + i);
            }
            return number > ElementForm.highestSize(width) ? NONE : number;
        }

        /** Reads an element's SIZE into bodySize (NONE: UNKNOWN): the place of its bytes, NONE: a FAULT. */
        private int readSize(int element, int from, int end, int id) {
            int width = sizeWidth(from, end);
            if (width == NONE) {
                return fail(SHORT, element);
            }
            if (width == 0) {
                return fail(SIZE, element);
            }
            bodySize = sizeNumber(from, width);
            boolean mayBeUnknown = id == SEGMENT || id == CLUSTER;
            if (bodySize > LAST_SIZE || bodySize == NONE && !mayBeUnknown) {
                return fail(SIZE, element);
            }
            if (bodySize > end - from - width) {
                return fail(SHORT, element);
            }
            return from + width;
        }

        private int readUint(int row, int element, int from, int end) {
            if (end - from > MOST_UINT_WIDTH) {
                return fail(VALUE, element);
            }
            long number = file.highFirst(from, end - from);
            if (number < column(row, LEAST) || number > column(row, MOST)) {
                return fail(VALUE, element);
            }
            if (column(row, 0) == TRACK_NUMBER) {
                trackNumber = number;
            }
            if (column(row, 0) == ElementForm.CLUSTER_TIME) {
                clusterTime = number;
            }
            return end;
        }

        private boolean isDocumentName(int from, int end) {
            if (end - from != DOCUMENT_NAME.length()) {
                return false;
            }
            for (int i = 0; i < DOCUMENT_NAME.length(); i++) {
                if (file.at(from + i) != DOCUMENT_NAME.charAt(i)) {
                    return false;
                }
            }
            return true;
        }

        private int readBlock(int id, int element, int from, int end) {
            if (clusterTime == NONE) {
                return fail(MISSING, element);
            }
            int width = sizeWidth(from, end);
            if (width < 1 || sizeNumber(from, width) != trackNumber || end - from - width < 3) {
                return fail(VALUE, element);
            }
            long time = clusterTime + (short) file.highFirst(from + width, 2);
            int flags = file.at(from + width + 2);
            int mayBeSet = id == ElementForm.SIMPLE_BLOCK ? 0x8F : 0x0E;
            if (time < 0 || time > LAST_TIME || (flags & ~mayBeSet) != 0) {
                return fail(VALUE, element);
            }
            int packets = readLacing(flags >> 1 & 3, from + width + 3, end);
            if (packets == NONE) {
                return fail(VALUE, element);
            }
            if (!target.hasRoom(packets, end - lacingAt)) {
                return fail(MANY, element);
            }
            takePackets(packets, time);
            blocks++;
            return end;
        }

        private void takePackets(int packets, long time) {
            int at = lacingAt;
            for (int i = 0; i < packets && i < lacedSizes.length; i++) {
                target.bytes.addPart(file, at, lacedSizes[i]);
                target.endPacket(i == 0 ? time : NONE);
                at += lacedSizes[i];
            }
        }

        /**
         * Finds the sizes of a block's packets: how many packets, NONE if they don't come out; the
         * packets' bytes begin at lacingAt then.
         */
        private int readLacing(int lacing, int from, int end) {
            lacingAt = from;
            if (lacing == ElementForm.NO_LACING) {
                lacedSizes[0] = end - from;
                return 1;
            }
            if (from >= end) {
                return NONE;
            }
            int packets = file.at(from) + 1;
            if (packets < 1 || packets > lacedSizes.length) {
                return NONE;
            }
            lacingAt = from + 1;
            if (lacing == ElementForm.LACING_OF_SAME) {
                return shareAlike(packets, end - lacingAt);
            }
            long total = 0;
            for (int i = 0; i < packets - 1; i++) {
                long howMany = lacing == ElementForm.LACING_BY_SUMS
                        ? readSummedSize(end)
                        : readSizeOrDifference(i, end);
                if (howMany < 0 || howMany > end - from) {
                    return NONE;
                }
                lacedSizes[i] = (int) howMany;
                total += howMany;
            }
            if (total > end - lacingAt) {
                return NONE;
            }
            lacedSizes[packets - 1] = end - lacingAt - (int) total;
            return packets;
        }

        private int shareAlike(int packets, int bytes) {
            if (packets < 1 || bytes % packets != 0) {
                return NONE;
            }
            for (int i = 0; i < packets && i < lacedSizes.length; i++) {
                lacedSizes[i] = bytes / packets;
            }
            return packets;
        }

        private long readSummedSize(int end) {
            long total = 0;
            for (int at = lacingAt; at < end; at++) {
                total += file.at(at);
                if (file.at(at) < 255) {
                    lacingAt = at + 1;
                    return total;
                }
            }
            return NONE;
        }

        /** The size of laced packet i, by a SIZE of its own or as a difference; below 0: it has none. */
        private long readSizeOrDifference(int i, int end) {
            int width = sizeWidth(lacingAt, end);
            if (width < 1) {
                return NONE;
            }
            long number = sizeNumber(lacingAt, width);
            if (number == NONE) {
                return NONE;
            }
            lacingAt += width;
            if (i < 1 || i > lacedSizes.length) {
                return number;
            }
            return lacedSizes[i - 1] + number - ElementForm.differenceShift(width);
        }
    }
}
