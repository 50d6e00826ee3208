import java.util.Random;

/** Lists go through both kinds of files and come back; damaged files are answered, and harm nothing. */
public final class RoundTripTest {
    private static final long LAST_TIME = (1L << 40) - 1;
    private static final int[] SIZES = {0, 1, 2, 20, 62, 63, 64, 126, 127, 128, 254, 255, 256, 510, 600};

    public static void main(String[] args) {
        Random random = new Random(20261116);
        for (int run = 0; run < 400; run++) {
            throughPages(random, "run " + run);
            throughElements(random, "run " + run);
        }
        largest();
        wildCalls(random);
        Checks.end();
    }

    private static StreamRemuxer withPackets(Random random, int most) {
        StreamRemuxer x = new StreamRemuxer();
        int packets = 1 + random.nextInt(most);
        long time = random.nextInt(3) == 0 ? LAST_TIME - 3_000_000 : random.nextInt(70_000);
        for (int i = 0; i < packets; i++) {
            byte[] octets = new byte[random.nextBoolean() ? random.nextInt(30) : SIZES[random.nextInt(SIZES.length)]];
            random.nextBytes(octets);
            time += random.nextInt(4) == 0 ? 40_000 : random.nextInt(1000);
            Checks.addPacket(x, octets, random.nextInt(4) == 0 ? -1 : time);
        }
        return x;
    }

    /** The bytes alone: of the TIMES those are lost that a file has no place for. */
    private static String bytesOf(StreamRemuxer x) {
        return Checks.list(x).replaceAll("-?\\d+:", ":");
    }

    private static void throughPages(Random random, String run) {
        StreamRemuxer x = withPackets(random, 20);
        String before = bytesOf(x);
        int length = x.pages(random.nextInt(), 1 + random.nextInt(20), 1 + random.nextInt(255));
        int packets = x.clear();
        Checks.due(run + ": turn", x.turn(), length);
        Checks.due(run + ": readPages", x.readPages(length), packets);
        Checks.due(run + ": bytes", bytesOf(x), before);
        String list = Checks.list(x);
        x.turn();
        damage(random, x, length);
        sumAll(x, length);
        checkOutcome(run + ": damaged pages", x, x.readPages(length), length, list);
    }

    private static void throughElements(Random random, String run) {
        StreamRemuxer x = withPackets(random, 20);
        String before = bytesOf(x);
        long first = Math.max(x.time(0), 0);
        int lace = random.nextInt(4);
        int length = x.elements(lace, 1 + random.nextInt(8), 1 + random.nextInt(20), random.nextBoolean());
        int packets = x.clear();
        Checks.due(run + ": turn", x.turn(), length);
        Checks.due(run + ": readElements", x.readElements(length), packets);
        Checks.due(run + ": bytes", bytesOf(x), before);
        Checks.due(run + ": first TIME", x.time(0), first);
        String list = Checks.list(x);
        x.turn();
        damage(random, x, length);
        checkOutcome(run + ": damaged elements", x, x.readElements(length), length, list);
    }

    private static void damage(Random random, StreamRemuxer x, int length) {
        int times = random.nextInt(4);
        for (int i = 0; i < times; i++) {
            x.patch(random.nextInt(length), random.nextInt(256));
        }
    }

    private static void sumAll(StreamRemuxer x, int length) {
        for (int k = 0; k < length; k++) {
            x.sum(k);
        }
    }

    private static void checkOutcome(String what, StreamRemuxer x, int answer, int length, String list) {
        Checks.due(what + ": tape", x.count(3), 0);
        if (answer == -1) {
            Checks.due(what + ": a FAULT", x.wrong(0) >= 1 && x.wrong(0) <= 8, true);
            Checks.due(what + ": its place", x.wrong(1) >= 0 && x.wrong(1) <= length, true);
            Checks.due(what + ": LIST", Checks.list(x), list);
        } else {
            Checks.due(what + ": PACKETS", answer, x.count(0));
            Checks.due(what + ": no FAULT", x.wrong(0), 0);
        }
    }

    /** The longest files that a LIST can make. */
    private static void largest() {
        StreamRemuxer x = new StreamRemuxer();
        Checks.addPacket(x, new byte[2295], LAST_TIME - 64);
        for (int i = 1; i < 64; i++) {
            Checks.addPacket(x, new byte[i == 1 ? 105 : 0], LAST_TIME - 64 + i);
        }
        Checks.due("pages", x.pages(1, 1, 1), 73 * 28 + 2400);
        x.turn();
        Checks.due("readPages", x.readPages(73 * 28 + 2400), 64);
        Checks.due("count(4)", x.count(4), 73);
        int length = x.elements(0, 1, 1, false);
        x.turn();
        Checks.due("readElements", x.readElements(length), 64);
        Checks.due("count(5)", x.count(5), 64);
        Checks.due("count(1)", x.count(1), 2400);
    }

    /** Any arguments in any state: no call may throw. */
    private static void wildCalls(Random random) {
        int[] wild = {Integer.MIN_VALUE, Integer.MIN_VALUE + 1, -2, -1, 0, 1, 2, 20, 63, 64, 255, 6000,
            Integer.MAX_VALUE - 1, Integer.MAX_VALUE};
        for (int run = 0; run < 100; run++) {
            StreamRemuxer x = new StreamRemuxer();
            for (int step = 0; step < 500; step++) {
                int a = wild[random.nextInt(wild.length)];
                int b = wild[random.nextInt(wild.length)];
                callOne(x, random.nextInt(16), a, b, random);
            }
            Checks.due("PACKETS", x.count(0) >= 0 && x.count(0) <= 64, true);
            Checks.due("bytes", x.count(1) >= 0 && x.count(1) <= 2400, true);
            Checks.due("tape", x.count(3) >= 0 && x.count(3) <= 6000, true);
        }
    }

    private static void callOne(StreamRemuxer x, int which, int a, int b, Random random) {
        switch (which) {
            case 0 -> x.feed(a, b, 0x4F676753, 0x1A45DFA3, random.nextInt());
            case 1 -> x.packet(a, b);
            case 2 -> x.clear();
            case 3 -> x.pages(a, random.nextInt(22), random.nextInt(258));
            case 4 -> x.elements(random.nextInt(5), random.nextInt(10), random.nextInt(22), random.nextBoolean());
            case 5 -> x.readPages(random.nextBoolean() ? a : x.count(3));
            case 6 -> x.readElements(random.nextBoolean() ? a : x.count(3));
            case 7 -> x.wrong(a);
            case 8 -> x.turn();
            case 9 -> x.count(a);
            case 10 -> x.size(a);
            case 11 -> x.time(a);
            case 12 -> x.octet(a, b);
            case 13 -> x.out(a);
            case 14 -> x.patch(a, b);
            default -> x.sum(a);
        }
    }
}
