import java.util.Arrays;

/** Promise 17: the SUM of a page on the tape is made right. */
public final class SumTest extends PageFiles {
    public static void main(String[] args) {
        madeRight();
        asTold();
        noMark();
        outsideOfTape();
        notAllThere();
        pageOfAnyForm();
        otherBytesStay();
        Checks.end(17);
    }

    private static void madeRight() {
        Checks.of(17, "The SUM of a page is made right: of the one that begins at place k of the tape");
        StreamRemuxer x = new StreamRemuxer();
        byte[] first = page(2, 5, 1, 0, 2);
        byte[] last = page(4, 6, 1, 1, 255, 3);
        int n = Checks.load(x, Checks.join(first, last));
        x.patch(first.length + 40, 9);
        for (int k = 22; k < 26; k++) {
            x.patch(k, 0x5A);
        }
        Checks.due("sum(0)", x.sum(0), true);
        Checks.due("sum of page 1", x.sum(first.length), true);
        Checks.due("sum(0) again", x.sum(0), true);
        Checks.due("what is read then", x.readPages(n), 2);
        Checks.due("FAULT", x.wrong(0), 0);
    }

    private static void sumIs(String what, byte[] page, int want) {
        StreamRemuxer x = new StreamRemuxer();
        Checks.load(x, page);
        Checks.due(what, x.sum(0), true);
        String tape = Checks.tape(x);
        Checks.due("SUM of " + what, tape.substring(44, 52), Checks.hex(little(want, 4)));
    }

    private static void asTold() {
        Checks.of(17, "The SUM: of all bytes of the page, with 0 in place of the SUM");
        byte[] known = Checks.join(Checks.bytes("'OggS' 00 02 0000000000000000 07000000 00000000 FFFFFFFF 01 0A"),
                Checks.bytes("0D141B222930373E454C"));
        sumIs("a page whose SUM the tests under ../shared tell", known, 0x791E56CF);
        for (int first = 0; first < 256; first++) {
            byte[] made = pageOf(6, first, first, 0, Checks.ramp(9, first), 0, 9);
            sumIs("ramp " + first, made, sumOf(made));
        }
    }

    private static void staysAt(StreamRemuxer x, int... places) {
        for (int k : places) {
            Checks.due("sum(" + k + ")", x.sum(k), false);
        }
    }

    private static void noMark() {
        Checks.of(17, "if OggS stands there");
        byte[] page = page(6, 5, 1, 0, 12);
        page[23] ^= 1;
        for (int k = 0; k < 4; k++) {
            byte[] other = page.clone();
            other[k] ^= 0x20;
            StreamRemuxer x = new StreamRemuxer();
            Checks.load(x, other);
            staysAt(x, 0, 1, 2, 3, 4, 39);
            Checks.due("tape", Checks.tape(x), Checks.hex(other));
        }
    }

    private static void outsideOfTape() {
        StreamRemuxer x = new StreamRemuxer();
        staysAt(x, 0, -1, MIN, MAX);
        int n = Checks.load(x, page(6, 5, 1, 0, 12));
        staysAt(x, -1, 1, n - 1, n, n + 1, 6000, MIN, MIN + 1, MAX, MAX - 3);
        x.packet(0, 0);
        staysAt(x, 0);
        x.packet(0, 0);
        x.pages(1, 1, 1);
        staysAt(x, 0);
    }

    private static void notAllThere() {
        Checks.of(17, "and it's all there: true");
        byte[] page = page(6, 5, 1, 0, 4, 6);
        page[22] ^= 1;
        for (int shift = 0; shift <= 20; shift++) {
            byte[] tape = Arrays.copyOf(Checks.join(new byte[shift], page), 40);
            StreamRemuxer x = new StreamRemuxer();
            Checks.load(x, tape);
            boolean allThere = shift + page.length <= 40;
            Checks.due(page.length + " bytes from " + shift + " on", x.sum(shift), allThere);
            if (!allThere) {
                Checks.due("tape", Checks.tape(x), Checks.hex(tape));
            }
        }
        headerNotAllThere();
    }

    private static void headerNotAllThere() {
        StreamRemuxer x = new StreamRemuxer();
        Checks.load(x, Checks.join(new byte[13], page(6, 5, 1, 0)));
        Checks.due("27 bytes", x.sum(13), true);
        StreamRemuxer y = new StreamRemuxer();
        Checks.load(y, Arrays.copyOf(Checks.join(new byte[14], page(6, 5, 1, 0)), 40));
        Checks.due("26 bytes", y.sum(14), false);
        StreamRemuxer z = new StreamRemuxer();
        Checks.load(z, Arrays.copyOf(page(6, 5, 1, 0, new int[14]), 40));
        Checks.due("a byte of 14 sizes is missing", z.sum(0), false);
        Checks.due("13 sizes", z.patch(26, 13) && z.sum(0), true);
        StreamRemuxer four = new StreamRemuxer();
        Checks.load(four, Checks.join(new byte[16], Checks.bytes("'OggS'")));
        Checks.due("the mark alone", four.sum(16), false);
    }

    /** Nothing but its mark and its length is asked of the page. */
    private static void pageOfAnyForm() {
        byte[] odd = page(255, -7, 1, 9, 255, 255, 0);
        odd[4] = 7;
        StreamRemuxer x = new StreamRemuxer();
        Checks.load(x, odd);
        Checks.due("another version, FLAGS 255", x.sum(0), true);
        fixSum(odd);
        Checks.due("tape", Checks.tape(x).substring(0, 2 * odd.length), Checks.hex(odd));
        sumIs("no segment", page(6, -1, 1, 0), sumOf(page(6, -1, 1, 0)));
        byte[] most = page(6, 1, 1, 0, new int[255]);
        sumIs("255 segments", most, sumOf(most));
    }

    private static void otherBytesStay() {
        Checks.of(17, "The SUM of a page is made right");
        byte[] page = page(6, 5, 1, 0, 1, 2);
        byte[] tape = Checks.join(Checks.ramp(6, 1), page, Checks.ramp(2, 99));
        String want = Checks.hex(tape);
        for (int k = 28; k < 32; k++) {
            tape[k] ^= 0x33;
        }
        StreamRemuxer x = new StreamRemuxer();
        Checks.load(x, tape);
        x.packet(0, 7);
        Checks.load(x, tape);
        Checks.due("sum(6)", x.sum(6), true);
        Checks.due("the tape's length", x.count(3), 40);
        Checks.due("LIST", Checks.list(x), "7:");
        Checks.due("tape", Checks.tape(x), want);
    }
}
