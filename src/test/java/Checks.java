import java.io.ByteArrayOutputStream;
import java.io.IOException;
import java.nio.file.Files;
import java.nio.file.Path;
import java.util.TreeSet;

/** What the tests share: counting wrong answers by promise, and making and loading rows of bytes. */
final class Checks {
    private static final Path DOCUMENT = Path.of("../shared/DOC.md");
    private static final TreeSet<Integer> PROMISES = new TreeSet<>();
    private static int asked = 0;
    private static int wrong = 0;
    private static String sentence = "";

    private Checks() {
    }

    /** Says to which promise, and to which of the document's words, the answers that follow belong. */
    static void of(int promise, String words) {
        sentence = "Promise " + promise + ", '" + words + "': ";
        PROMISES.add(promise);
        due("these words stand in the document", isInDocument(promise, words), true);
    }

    /** Whether the words stand under the promise or under the terms; where there is no document, they do. */
    private static boolean isInDocument(int promise, String words) {
        if (!Files.isReadable(DOCUMENT)) {
            return true;
        }
        try {
            for (String part : Files.readString(DOCUMENT).split("\n## ")) {
                boolean belongs = part.startsWith("Terms") || part.startsWith("Promise " + promise + ":");
                if (belongs && part.replaceAll("\\s+", " ").contains(words)) {
                    return true;
                }
            }
        } catch (IOException unreadable) {
            System.out.println(unreadable);
        }
        return false;
    }

    static void due(String what, long got, long want) {
        due(what, String.valueOf(got), String.valueOf(want));
    }

    static void due(String what, boolean got, boolean want) {
        due(what, String.valueOf(got), String.valueOf(want));
    }

    static void due(String what, String got, String want) {
        asked++;
        if (!got.equals(want)) {
            wrong++;
            System.out.println(sentence + what + " answered " + got + ", due is " + want);
        }
    }

    /** Prints the outcome; exit code 1 if an answer was wrong, or one of these promises was not asked about. */
    static void end(int... promises) {
        sentence = "";
        for (int promise : promises) {
            due("promise " + promise + " has a test", PROMISES.contains(promise), true);
        }
        System.out.println(asked + " answers, " + wrong + " wrong");
        if (wrong != 0 || asked == 0) {
            System.exit(1);
        }
    }

    /** Bytes from hexadecimal digits, blanks, and texts between ' and '. */
    static byte[] bytes(String told) {
        ByteArrayOutputStream made = new ByteArrayOutputStream();
        for (int k = 0; k < told.length(); k++) {
            char c = told.charAt(k);
            if (c == '\'') {
                int end = told.indexOf('\'', k + 1);
                for (char t : told.substring(k + 1, end).toCharArray()) {
                    made.write(t);
                }
                k = end;
            } else if (c != ' ') {
                made.write(Integer.parseInt(told.substring(k, k + 2), 16));
                k++;
            }
        }
        return made.toByteArray();
    }

    static byte[] join(byte[]... parts) {
        ByteArrayOutputStream made = new ByteArrayOutputStream();
        for (byte[] part : parts) {
            made.write(part, 0, part.length);
        }
        return made.toByteArray();
    }

    static byte[] ramp(int howMany, int first) {
        byte[] made = new byte[howMany];
        for (int k = 0; k < howMany; k++) {
            made[k] = (byte) (first + 7 * k);
        }
        return made;
    }

    /** Feeds an empty tape with the bytes, and with others behind them up to a number of twenties. */
    static int load(StreamRemuxer x, byte[] file) {
        return load(x, file, 0xEC);
    }

    static int load(StreamRemuxer x, byte[] file, int behind) {
        for (int k = 0; k < file.length; k += 20) {
            int[] numbers = new int[5];
            for (int j = 0; j < 20; j++) {
                int octet = k + j < file.length ? file[k + j] & 255 : behind;
                numbers[j / 4] = numbers[j / 4] << 8 | octet;
            }
            due("feed at " + k, x.feed(numbers[0], numbers[1], numbers[2], numbers[3], numbers[4]), k + 20);
        }
        return file.length;
    }

    static int addPacket(StreamRemuxer x, byte[] octets, long time) {
        load(x, octets);
        return x.packet(octets.length, time);
    }

    /** OUT in hexadecimal. */
    static String out(StreamRemuxer x) {
        StringBuilder told = new StringBuilder();
        for (int k = 0; k < x.count(2); k++) {
            addHex(told, x.out(k));
        }
        return told.toString();
    }

    static String hex(byte[] octets) {
        StringBuilder told = new StringBuilder();
        for (byte b : octets) {
            addHex(told, b & 255);
        }
        return told.toString();
    }

    /** The LIST: of each PACKET its TIME and its bytes. */
    static String list(StreamRemuxer x) {
        StringBuilder told = new StringBuilder();
        for (int i = 0; i < x.count(0); i++) {
            told.append(i > 0 ? " " : "").append(x.time(i)).append(':');
            for (int k = 0; k < x.size(i); k++) {
                addHex(told, x.octet(i, k));
            }
        }
        return told.toString();
    }

    private static void addHex(StringBuilder told, int octet) {
        if (octet < 0 || octet > 255) {
            told.append('?');
            return;
        }
        told.append(Character.toUpperCase(Character.forDigit(octet >> 4, 16)));
        told.append(Character.toUpperCase(Character.forDigit(octet & 15, 16)));
    }

    /** All that can be asked without changing anything: the tape's bytes can't. */
    static String state(StreamRemuxer x) {
        StringBuilder told = new StringBuilder("counts");
        for (int what = 0; what <= 6; what++) {
            told.append(' ').append(x.count(what));
        }
        told.append(", wrong ").append(x.wrong(0)).append(' ').append(x.wrong(1));
        return told + ", LIST " + list(x) + ", OUT " + out(x);
    }

    /** The tape's first bytes, as many as a PACKET may have; the tape and the LIST are lost by it. */
    static String tape(StreamRemuxer x) {
        x.clear();
        x.packet(Math.min(x.count(3), 2400), 0);
        return list(x).substring(2);
    }
}
