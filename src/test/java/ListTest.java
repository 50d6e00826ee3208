/** Promises 1 to 4 and 9 to 16: the tape, the LIST, OUT, and what is asked of them. */
public final class ListTest {
    private static final long LAST_TIME = (1L << 40) - 1;

    public static void main(String[] args) {
        newObject();
        feed();
        packet();
        packetRefused();
        packetFull();
        clear();
        turn();
        askingBeyond();
        patch();
        Checks.end();
    }

    private static void newObject() {
        StreamRemuxer x = new StreamRemuxer();
        for (int what = 0; what <= 6; what++) {
            Checks.due("new: count(" + what + ")", x.count(what), 0);
        }
        Checks.due("new: wrong(0)", x.wrong(0), 0);
        Checks.due("new: wrong(1)", x.wrong(1), -1);
        Checks.due("new: size(0)", x.size(0), -1);
        Checks.due("new: time(0)", x.time(0), -1);
        Checks.due("new: octet(0, 0)", x.octet(0, 0), -1);
        Checks.due("new: out(0)", x.out(0), -1);
        Checks.due("new: patch(0, 1)", x.patch(0, 1), false);
        Checks.due("new: sum(0)", x.sum(0), false);
        Checks.due("new: turn()", x.turn(), 0);
        Checks.due("new: clear()", x.clear(), 0);
        Checks.due("NONE", StreamRemuxer.NONE, -1);
    }

    private static void feed() {
        StreamRemuxer x = new StreamRemuxer();
        Checks.due("feed", x.feed(0x01020304, 0x7F80FF00, -1, 0x11121314, 0x15161718), 20);
        Checks.due("packet of a feed", x.packet(20, 0), 1);
        Checks.due("bytes of a feed", Checks.list(x), "0:010203047F80FF00FFFFFFFF1112131415161718");
        for (int k = 1; k <= 300; k++) {
            Checks.due("feed " + k, x.feed(k, k, k, k, k), 20 * k);
        }
        Checks.due("feed beyond 6,000", x.feed(1, 2, 3, 4, 5), -1);
        Checks.due("tape behind it", x.count(3), 6000);
        Checks.due("all of it is too much for a packet", x.packet(6000, 0), -1);
        Checks.due("the tape is empty all the same", x.count(3), 0);
        Checks.due("the LIST stays", x.count(0), 1);
    }

    private static void packet() {
        StreamRemuxer x = new StreamRemuxer();
        Checks.due("part of the tape", partOfTape(x, 3, 7), 1);
        Checks.due("tape behind it", x.count(3), 0);
        Checks.due("an empty one, without a TIME", x.packet(0, -1), 2);
        Checks.due("the last TIME", partOfTape(x, 1, LAST_TIME), 3);
        Checks.due("LIST", Checks.list(x), "7:00070E -1: 1099511627775:00");
        Checks.due("count(0)", x.count(0), 3);
        Checks.due("count(1)", x.count(1), 4);
    }

    private static int partOfTape(StreamRemuxer x, int n, long time) {
        Checks.load(x, Checks.ramp(20, 0));
        return x.packet(n, time);
    }

    private static void packetRefused() {
        StreamRemuxer x = new StreamRemuxer();
        Checks.load(x, Checks.ramp(20, 0));
        int[] lengths = {-1, 21, Integer.MIN_VALUE, Integer.MAX_VALUE};
        for (int n : lengths) {
            Checks.due("packet(" + n + ", 0)", x.packet(n, 0), -2);
        }
        long[] times = {-2, LAST_TIME + 1, Long.MIN_VALUE, Long.MAX_VALUE};
        for (long time : times) {
            Checks.due("packet(5, " + time + ")", x.packet(5, time), -2);
        }
        Checks.due("the tape stays", x.count(3), 20);
        Checks.due("the LIST stays", x.count(0), 0);
    }

    private static void packetFull() {
        StreamRemuxer x = new StreamRemuxer();
        for (int i = 1; i <= 64; i++) {
            Checks.due("packet " + i, x.packet(0, i), i);
        }
        Checks.due("packet 65", partOfTape(x, 2, 0), -1);
        Checks.due("the tape behind packet 65", x.count(3), 0);
        Checks.due("a wrong one on a full LIST", x.packet(1, 0), -2);
        StreamRemuxer y = new StreamRemuxer();
        Checks.due("2,400 bytes", Checks.addPacket(y, Checks.ramp(2400, 1), 0), 1);
        Checks.due("an empty one more", y.packet(0, 0), 2);
        Checks.due("byte 2,401", partOfTape(y, 1, 0), -1);
        Checks.due("count(0)", y.count(0), 2);
        Checks.due("count(1)", y.count(1), 2400);
        Checks.due("octet(0, 2399)", y.octet(0, 2399), 1 + 7 * 2399 & 255);
    }

    private static void clear() {
        StreamRemuxer x = new StreamRemuxer();
        partOfTape(x, 5, 0);
        x.packet(0, 3);
        Checks.load(x, Checks.ramp(20, 0));
        Checks.due("clear()", x.clear(), 2);
        Checks.due("clear() again", x.clear(), 0);
        Checks.due("count(0)", x.count(0), 0);
        Checks.due("count(1)", x.count(1), 0);
        Checks.due("size(0)", x.size(0), -1);
        Checks.due("the tape stays", x.count(3), 20);
        Checks.due("a packet behind clear()", x.packet(2, 9), 1);
        Checks.due("LIST", Checks.list(x), "9:0007");
    }

    private static void turn() {
        StreamRemuxer x = new StreamRemuxer();
        Checks.addPacket(x, Checks.ramp(20, 3), 0);
        int length = x.pages(1, 1, 1);
        String out = Checks.out(x);
        Checks.load(x, Checks.ramp(40, 0));
        Checks.due("turn()", x.turn(), length);
        Checks.due("count(3)", x.count(3), length);
        Checks.due("OUT stays", Checks.out(x), out);
        Checks.due("feed behind it", x.feed(0, 0, 0, 0, 0), length + 20);
        Checks.due("patch of the tape", x.patch(0, 1), true);
        Checks.due("OUT is another row", x.out(0), 'O');
        x.turn();
        x.clear();
        Checks.due("the tape's bytes", x.packet(length, 0), 1);
        Checks.due("LIST", Checks.list(x), "0:" + out);
        tapeOfAnyLength();
        Checks.due("an empty OUT", new StreamRemuxer().turn(), 0);
    }

    private static void tapeOfAnyLength() {
        StreamRemuxer x = new StreamRemuxer();
        Checks.addPacket(x, Checks.ramp(13, 3), 0);
        Checks.due("41 bytes", x.pages(1, 1, 1), 41);
        x.turn();
        for (int length = 61; length <= 5981; length += 20) {
            Checks.due("feed up to " + length, x.feed(1, 2, 3, 4, 5), length);
        }
        Checks.due("feed up to 6,001", x.feed(1, 2, 3, 4, 5), -1);
        Checks.due("the tape stays", x.count(3), 5981);
    }

    private static void askingBeyond() {
        StreamRemuxer x = new StreamRemuxer();
        Checks.addPacket(x, Checks.ramp(3, 250), 4);
        x.elements(0, 1, 1, false);
        int[] beyond = {-1, 1, 2, 64, 6000, Integer.MIN_VALUE, Integer.MAX_VALUE};
        for (int i : beyond) {
            Checks.due("size(" + i + ")", x.size(i), -1);
            Checks.due("time(" + i + ")", x.time(i), -1);
            Checks.due("octet(" + i + ", 0)", x.octet(i, 0), -1);
        }
        int[] outside = {-1, 3, 2400, Integer.MIN_VALUE, Integer.MAX_VALUE};
        for (int k : outside) {
            Checks.due("octet(0, " + k + ")", x.octet(0, k), -1);
        }
        int[] others = {-1, 7, Integer.MIN_VALUE, Integer.MAX_VALUE};
        for (int what : others) {
            Checks.due("count(" + what + ")", x.count(what), -1);
            Checks.due("wrong(" + what + ")", x.wrong(what), -1);
        }
        Checks.due("wrong(2)", x.wrong(2), -1);
        x.packet(0, 5);
        Checks.addPacket(x, Checks.ramp(2, 9), 6);
        Checks.due("octet(0, 3) is not the next one's", x.octet(0, 3), -1);
        Checks.due("octet(1, 0) is not the next one's", x.octet(1, 0), -1);
        Checks.due("octet(2, -1) is not that of one ahead", x.octet(2, -1), -1);
        Checks.due("octet(2, 1)", x.octet(2, 1), 16);
        Checks.due("out(-1)", x.out(-1), -1);
        Checks.due("out behind the last", x.out(x.count(2)), -1);
        Checks.due("out(max)", x.out(Integer.MAX_VALUE), -1);
        Checks.due("last byte of OUT", x.out(x.count(2) - 1), 250 + 14 & 255);
    }

    private static void patch() {
        StreamRemuxer x = new StreamRemuxer();
        Checks.load(x, Checks.ramp(20, 0));
        Checks.due("patch(0, 0x1FE)", x.patch(0, 0x1FE), true);
        Checks.due("patch(3, -1)", x.patch(3, -1), true);
        Checks.due("patch(19, 5)", x.patch(19, 5), true);
        int[] outside = {-1, 20, 6000, Integer.MIN_VALUE, Integer.MAX_VALUE};
        for (int k : outside) {
            Checks.due("patch(" + k + ", 1)", x.patch(k, 1), false);
        }
        Checks.due("length stays", x.count(3), 20);
        x.packet(20, 0);
        byte[] want = Checks.ramp(20, 0);
        want[0] = (byte) 0xFE;
        want[3] = (byte) 0xFF;
        want[19] = 5;
        Checks.due("patched bytes", Checks.list(x), "0:" + Checks.hex(want));
    }
}
