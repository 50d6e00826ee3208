/** Pages made by hand, as the document tells them, for the tests that read or write them. */
class PageFiles {
    static final long LAST_TIME = (1L << 40) - 1;
    static final int MIN = Integer.MIN_VALUE;
    static final int MAX = Integer.MAX_VALUE;

    /** The SUM, bit by bit. */
    static int sumOf(byte[] page) {
        int r = 0;
        for (int k = 0; k < page.length; k++) {
            r ^= (k >= 22 && k < 26 ? 0 : page[k] & 255) << 24;
            for (int bit = 0; bit < 8; bit++) {
                r = r << 1 ^ (r < 0 ? 0x04C11DB7 : 0);
            }
        }
        return r;
    }

    static byte[] little(long number, int width) {
        byte[] made = new byte[width];
        for (int k = 0; k < width; k++) {
            made[k] = (byte) (number >>> (8 * k));
        }
        return made;
    }

    static void fixSum(byte[] page) {
        System.arraycopy(little(sumOf(page), 4), 0, page, 22, 4);
    }

    /** A page with a right SUM; its bytes are a ramp from its number on. */
    static byte[] page(int flags, long time, int serial, int number, int... segments) {
        int total = 0;
        for (int howMany : segments) {
            total += howMany;
        }
        return pageOf(flags, time, serial, number, Checks.ramp(total, number), segments);
    }

    static byte[] pageOf(int flags, long time, int serial, int number, byte[] body, int... segments) {
        byte[] table = new byte[segments.length];
        for (int i = 0; i < segments.length; i++) {
            table[i] = (byte) segments[i];
        }
        byte[] made = Checks.join(Checks.bytes("'OggS' 00"), little(flags, 1), little(time, 8),
                little(serial, 4), little(number, 4), new byte[4], little(segments.length, 1), table, body);
        fixSum(made);
        return made;
    }

    /** A page with one byte changed, and a SUM that is right all the same. */
    static byte[] changed(byte[] page, int k, int octet) {
        byte[] made = page.clone();
        made[k] = (byte) octet;
        fixSum(made);
        return made;
    }
}
