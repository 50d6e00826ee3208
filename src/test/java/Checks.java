import java.io.ByteArrayOutputStream;

/** What the tests share: counting wrong answers, and making and loading rows of bytes. */
final class Checks {
    private static int asked = 0;
    private static int wrong = 0;

    private Checks() {
    }

    static void due(String what, long got, long want) {
        asked++;
        if (got != want) {
            wrong++;
            System.out.println(what + " answered " + got + ", due is " + want);
        }
    }

    static void due(String what, boolean got, boolean want) {
        due(what, got ? 1 : 0, want ? 1 : 0);
    }

    static void due(String what, String got, String want) {
        asked++;
        if (!got.equals(want)) {
            wrong++;
            System.out.println(what + " answered\n  " + got + ", due is\n  " + want);
        }
    }

    /** Prints the outcome, and ends with exit code 1 if an answer was wrong. */
    static void end() {
        System.out.println(asked + " answers, " + wrong + " wrong");
        if (wrong != 0 || asked == 0) {
            System.exit(1);
        }
    }

    /** Bytes from hexadecimal digits, blanks, and texts between ' and '. */
    static byte[] bytes(String told) {
        ByteArrayOutputStream made = new ByteArrayOutputStream();
        for (int k = 0; k < told.length(); k++) {
            char c = told.charAt(k);
            if (c == '\'') {
                int end = told.indexOf('\'', k + 1);
                for (char t : told.substring(k + 1, end).toCharArray()) {
                    made.write(t);
                }
                k = end;
            } else if (c != ' ') {
                made.write(Integer.parseInt(told.substring(k, k + 2), 16));
                k++;
            }
        }
        return made.toByteArray();
    }

    static byte[] join(byte[]... parts) {
        ByteArrayOutputStream made = new ByteArrayOutputStream();
        for (byte[] part : parts) {
            made.write(part, 0, part.length);
        }
        return made.toByteArray();
    }

    static byte[] ramp(int howMany, int first) {
        byte[] made = new byte[howMany];
        for (int k = 0; k < howMany; k++) {
            made[k] = (byte) (first + 7 * k);
        }
        return made;
    }

    /** Feeds an empty tape with the bytes, and with others behind them up to a number of twenties. */
    static int load(StreamRemuxer x, byte[] file) {
        for (int k = 0; k < file.length; k += 20) {
            int[] numbers = new int[5];
            for (int j = 0; j < 20; j++) {
                int octet = k + j < file.length ? file[k + j] & 255 : 0xEC;
                numbers[j / 4] = numbers[j / 4] << 8 | octet;
            }
            due("feed at " + k, x.feed(numbers[0], numbers[1], numbers[2], numbers[3], numbers[4]), k + 20);
        }
        return file.length;
    }

    static int addPacket(StreamRemuxer x, byte[] octets, long time) {
        load(x, octets);
        return x.packet(octets.length, time);
    }

    /** OUT in hexadecimal. */
    static String out(StreamRemuxer x) {
        StringBuilder told = new StringBuilder();
        for (int k = 0; k < x.count(2); k++) {
            told.append(String.format("%02X", x.out(k)));
        }
        return told.toString();
    }

    static String hex(byte[] octets) {
        StringBuilder told = new StringBuilder();
        for (byte b : octets) {
            told.append(String.format("%02X", b & 255));
        }
        return told.toString();
    }

    /** The LIST: of each PACKET its TIME and its bytes. */
    static String list(StreamRemuxer x) {
        StringBuilder told = new StringBuilder();
        for (int i = 0; i < x.count(0); i++) {
            told.append(i > 0 ? " " : "").append(x.time(i)).append(':');
            for (int k = 0; k < x.size(i); k++) {
                told.append(String.format("%02X", x.octet(i, k)));
            }
        }
        return told.toString();
    }
}
