/** Elements made by hand, as the document tells them, for the tests that read them. */
class ElementFiles {
    static final byte[] NAME = Checks.bytes("4282 88 'matroska'");
    static final byte[] HEAD = element("1A45DFA3", NAME);
    static final byte[] NUMBER = Checks.bytes("D7 81 01");
    static final byte[] TYPE = Checks.bytes("83 81 02");
    static final byte[] CODEC = Checks.bytes("86 81 41");
    static final byte[] TRACK = element("AE", NUMBER, TYPE, CODEC);
    static final byte[] TRACKS = element("1654AE6B", TRACK);
    static final byte[] INFO = element("1549A966", Checks.bytes("2AD7B1 81 01"));
    /** A CLUSTER's TIME, 100. */
    static final byte[] TIME = Checks.bytes("E7 81 64");
    static final byte[] BLOCK = Checks.bytes("A3 86 81 0000 80 AABB");
    static final byte[] CLUSTER = element("1F43B675", TIME, BLOCK);
    static final byte[] VOID = Checks.bytes("EC 82 0505");
    /** The first bytes of a SEGMENT and of a CLUSTER of UNKNOWN SIZE. */
    static final byte[] OPEN_SEGMENT = Checks.bytes("18538067 FF");
    static final byte[] OPEN_CLUSTER = Checks.bytes("1F43B675 FF");
    /** Where the first element in SEGMENT stands, if its SIZE has one byte. */
    static final int IN_SEGMENT = HEAD.length + 5;
    /** Where what follows TRACKS stands, if they are the first in it. */
    static final int BEHIND_TRACKS = IN_SEGMENT + TRACKS.length;
    /** Where the first element in a CLUSTER behind TRACKS stands. */
    static final int IN_CLUSTER = BEHIND_TRACKS + 5;
    /** Where the first block of cluster() stands. */
    static final int FIRST_BLOCK = IN_CLUSTER + TIME.length;

    static byte[] bytes(String told) {
        return Checks.bytes(told);
    }

    static byte[] element(String id, byte[]... parts) {
        byte[] body = Checks.join(parts);
        String length = body.length < 127
                ? String.format("%02X", 0x80 | body.length)
                : String.format("%04X", 0x4000 | body.length);
        return Checks.join(Checks.bytes(id), Checks.bytes(length), body);
    }

    static byte[] segment(byte[]... parts) {
        return element("18538067", parts);
    }

    static byte[] tracks(byte[]... parts) {
        return element("1654AE6B", element("AE", parts));
    }

    /** A CLUSTER whose TIME is 100. */
    static byte[] cluster(byte[]... parts) {
        return element("1F43B675", TIME, Checks.join(parts));
    }
}
