/** Promises 1 to 4: a new object, the tape, and packets that come to the LIST. */
public final class ListTest {
    private static final long LAST_TIME = (1L << 40) - 1;
    private static final String NOTHING = "counts 0 0 0 0 0 0 0, wrong 0 -1, LIST , OUT ";
    private static final int MIN = Integer.MIN_VALUE;
    private static final int MAX = Integer.MAX_VALUE;

    public static void main(String[] args) {
        newObject();
        newObjectsShareNothing();
        feedOrder();
        feedFull();
        feedFullFromAnyLength();
        packetTakesFirstBytes();
        packetOfNothing();
        packetSixtyFive();
        packetBytesTooMany();
        packetLengthRefused();
        packetTimes();
        packetTimeRefused();
        refusalComesFirst();
        clear();
        clearGivesRoom();
        Checks.end(1, 2, 3, 4);
    }

    private static int partOfTape(StreamRemuxer x, int n, long time) {
        Checks.load(x, Checks.ramp(20, 0));
        return x.packet(n, time);
    }

    private static StreamRemuxer withOutAndTape() {
        StreamRemuxer x = new StreamRemuxer();
        partOfTape(x, 3, 7);
        x.pages(1, 1, 1);
        x.readPages(0);
        Checks.load(x, Checks.ramp(20, 50));
        return x;
    }

    private static void newObject() {
        Checks.of(1, "An empty tape, an empty LIST, an empty OUT.");
        StreamRemuxer x = new StreamRemuxer();
        Checks.due("state", Checks.state(x), NOTHING);
        Checks.due("size(0)", x.size(0), -1);
        Checks.due("time(0)", x.time(0), -1);
        Checks.due("octet(0, 0)", x.octet(0, 0), -1);
        Checks.due("out(0)", x.out(0), -1);
        Checks.due("patch(0, 1)", x.patch(0, 1), false);
        Checks.due("sum(0)", x.sum(0), false);
        Checks.due("packet(1, 0)", x.packet(1, 0), -2);
        Checks.due("readPages(1)", x.readPages(1), -2);
        Checks.due("readElements(1)", x.readElements(1), -2);
        Checks.due("turn()", x.turn(), 0);
        Checks.due("clear()", x.clear(), 0);
        Checks.due("NONE", StreamRemuxer.NONE, -1);
    }

    private static void newObjectsShareNothing() {
        StreamRemuxer x = withOutAndTape();
        StreamRemuxer y = new StreamRemuxer();
        Checks.due("state beside another", Checks.state(y), NOTHING);
        Checks.due("the other one", x.count(0) + x.count(3), 21);
    }

    private static void feedOrder() {
        Checks.of(2, "Twenty bytes come behind those on the tape, of each number the highest first");
        StreamRemuxer x = new StreamRemuxer();
        Checks.due("feed", x.feed(0x01020304, 0x7F80FF00, -1, MIN, MAX), 20);
        Checks.due("feed again", x.feed(0x11121314, 0x15161718, 0, 1, 0xFE000000), 40);
        Checks.due("tape", Checks.tape(x),
                "010203047F80FF00FFFFFFFF800000007FFFFFFF" + "11121314151617180000000000000001FE000000");
    }

    private static void feedFull() {
        Checks.of(2, "NONE, doing nothing: there would be more than 6,000.");
        StreamRemuxer x = new StreamRemuxer();
        for (int k = 1; k <= 300; k++) {
            Checks.due("feed " + k, x.feed(k, k, k, k, k), 20 * k);
        }
        String before = Checks.state(x);
        Checks.due("feed beyond 6,000", x.feed(-1, -2, -3, -4, -5), -1);
        Checks.due("feed beyond 6,000 again", x.feed(0, 0, 0, 0, 0), -1);
        Checks.due("state", Checks.state(x), before);
        Checks.due("all of it can be taken", x.packet(6000, 0), -1);
        Checks.due("there is room again", x.feed(0x0A0B0C0D, 2, 3, 4, 5), 20);
        Checks.due("tape", Checks.tape(x), "0A0B0C0D00000002000000030000000400000005");
    }

    private static void feedFullFromAnyLength() {
        StreamRemuxer x = new StreamRemuxer();
        Checks.addPacket(x, Checks.ramp(13, 3), 0);
        Checks.due("41 bytes", x.pages(1, 1, 1), 41);
        x.turn();
        for (int length = 61; length <= 5981; length += 20) {
            Checks.due("feed up to " + length, x.feed(1, 2, 3, 4, 5), length);
        }
        Checks.due("feed up to 6,001", x.feed(1, 2, 3, 4, 5), -1);
        Checks.due("the tape stays", x.count(3), 5981);
        Checks.due("it has no byte 5,981", x.patch(5981, 1), false);
    }

    private static void packetTakesFirstBytes() {
        Checks.of(3, "The first n bytes of the tape (which is empty then) are a PACKET more, "
                + "with a TIME: how many there are.");
        StreamRemuxer x = new StreamRemuxer();
        Checks.due("three of twenty", partOfTape(x, 3, 7), 1);
        Checks.due("the tape is empty", x.count(3), 0);
        Checks.due("all of twenty", partOfTape(x, 20, 6), 2);
        Checks.due("the tape is empty", x.count(3), 0);
        Checks.due("LIST", Checks.list(x), "7:00070E 6:" + Checks.hex(Checks.ramp(20, 0)));
        Checks.due("count(0)", x.count(0), 2);
        Checks.due("count(1)", x.count(1), 23);
    }

    private static void packetOfNothing() {
        Checks.of(3, "each has 0 bytes or more");
        StreamRemuxer x = new StreamRemuxer();
        Checks.due("of an empty tape", x.packet(0, 5), 1);
        Checks.due("of twenty bytes", partOfTape(x, 0, 6), 2);
        Checks.due("the tape is empty", x.count(3), 0);
        Checks.due("LIST", Checks.list(x), "5: 6:");
        Checks.due("count(1)", x.count(1), 0);
    }

    private static void packetSixtyFive() {
        Checks.of(3, "at most 64 PACKETS");
        StreamRemuxer x = new StreamRemuxer();
        for (int i = 1; i <= 64; i++) {
            Checks.due("packet " + i, partOfTape(x, i == 64 ? 1 : 0, i), i);
        }
        x.elements(0, 1, 1, true);
        String before = Checks.state(x);
        Checks.due("packet 65, empty", x.packet(0, 0), -1);
        Checks.due("packet 65", partOfTape(x, 2, 0), -1);
        Checks.due("all stays, and the tape is empty", Checks.state(x), before);
        Checks.due("packet 65 again", partOfTape(x, 20, -1), -1);
        Checks.due("all stays, and the tape is empty", Checks.state(x), before);
    }

    private static void packetBytesTooMany() {
        Checks.of(3, "NONE, all stays but the tape: it would be one or some bytes too many");
        StreamRemuxer x = new StreamRemuxer();
        Checks.due("2,401 bytes", Checks.addPacket(x, Checks.ramp(2401, 1), 0), -1);
        Checks.due("state", Checks.state(x), NOTHING);
        Checks.due("2,399 bytes", Checks.addPacket(x, Checks.ramp(2399, 1), 0), 1);
        Checks.due("two more", partOfTape(x, 2, 0), -1);
        Checks.due("the tape is empty", x.count(3), 0);
        Checks.due("one more", partOfTape(x, 1, 0), 2);
        Checks.due("an empty one more", x.packet(0, 0), 3);
        String before = Checks.state(x);
        Checks.due("byte 2,401", partOfTape(x, 1, 0), -1);
        Checks.due("all stays, and the tape is empty", Checks.state(x), before);
        Checks.due("count(1)", x.count(1), 2400);
        StreamRemuxer y = new StreamRemuxer();
        Checks.due("2,400 bytes at once", Checks.addPacket(y, Checks.ramp(2400, 1), 0), 1);
        Checks.due("its last byte", y.octet(0, 2399), 1 + 7 * 2399 & 255);
        Checks.due("6,000 bytes", Checks.addPacket(y, new byte[6000], 0), -1);
        Checks.due("the tape is empty", y.count(3), 0);
    }

    private static void packetLengthRefused() {
        Checks.of(3, "-2, doing nothing: n is below 0 or more than there are");
        StreamRemuxer x = withOutAndTape();
        String before = Checks.state(x);
        int[] lengths = {-1, 21, MIN, MAX, -20, 6000};
        for (int n : lengths) {
            Checks.due("packet(" + n + ", 0)", x.packet(n, 0), -2);
            Checks.due("state", Checks.state(x), before);
        }
        Checks.due("tape", Checks.tape(x), Checks.hex(Checks.ramp(20, 50)));
        Checks.due("of an empty tape", x.packet(1, 0), -2);
    }

    private static void packetTimes() {
        Checks.of(3, "a TIME: NONE (-1) or 0 to 2 to the 40 less 1");
        StreamRemuxer x = new StreamRemuxer();
        long[] times = {-1, 0, 1, 0x7FFFFFFFL, 0x80000000L, 0xFFFFFFFFL, 1L << 39, LAST_TIME};
        for (int i = 0; i < times.length; i++) {
            Checks.due("packet(0, " + times[i] + ")", x.packet(0, times[i]), i + 1);
        }
        for (int i = 0; i < times.length; i++) {
            Checks.due("time(" + i + ")", x.time(i), times[i]);
        }
    }

    private static void packetTimeRefused() {
        Checks.of(3, "or time is no TIME (NONE is one)");
        StreamRemuxer x = withOutAndTape();
        String before = Checks.state(x);
        long[] times = {-2, LAST_TIME + 1, Long.MIN_VALUE, Long.MAX_VALUE, 0xFFFFFFFF00000000L, 1L << 62};
        for (long time : times) {
            Checks.due("packet(5, " + time + ")", x.packet(5, time), -2);
            Checks.due("state", Checks.state(x), before);
        }
        Checks.due("tape", Checks.tape(x), Checks.hex(Checks.ramp(20, 50)));
    }

    private static void refusalComesFirst() {
        StreamRemuxer x = new StreamRemuxer();
        for (int i = 1; i <= 64; i++) {
            x.packet(0, 0);
        }
        Checks.load(x, Checks.ramp(20, 50));
        Checks.due("n, with a full LIST", x.packet(21, 0), -2);
        Checks.due("time, with a full LIST", x.packet(20, LAST_TIME + 1), -2);
        Checks.due("tape", Checks.tape(x), Checks.hex(Checks.ramp(20, 50)));
    }

    private static void clear() {
        Checks.of(4, "The LIST is empty: how many there were.");
        StreamRemuxer x = withOutAndTape();
        String out = Checks.out(x);
        x.packet(0, 3);
        Checks.load(x, Checks.ramp(20, 50));
        Checks.due("clear()", x.clear(), 2);
        Checks.due("state", Checks.state(x), "counts 0 0 31 20 0 0 0, wrong 1 0, LIST , OUT " + out);
        Checks.due("clear() again", x.clear(), 0);
        Checks.due("size(0)", x.size(0), -1);
        Checks.due("time(0)", x.time(0), -1);
        Checks.due("octet(0, 0)", x.octet(0, 0), -1);
        Checks.due("a packet behind clear()", x.packet(2, 9), 1);
        Checks.due("LIST", Checks.list(x), "9:3239");
    }

    private static void clearGivesRoom() {
        StreamRemuxer x = new StreamRemuxer();
        for (int i = 1; i <= 64; i++) {
            x.packet(0, 0);
        }
        Checks.due("64 there were", x.clear(), 64);
        Checks.due("2,400 bytes", Checks.addPacket(x, Checks.ramp(2400, 1), 0), 1);
        Checks.due("one there was", x.clear(), 1);
        Checks.due("2,400 bytes again", Checks.addPacket(x, Checks.ramp(2400, 2), 0), 1);
        Checks.due("its first byte", x.octet(0, 0), 2);
    }
}
