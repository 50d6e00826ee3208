import java.io.IOException;
import java.lang.reflect.Modifier;
import java.nio.file.Files;
import java.nio.file.Path;

/** The example of README.md, line by line, does what it says there; its tables leave out no test and no call. */
public final class ReadmeTest {
    public static void main(String[] args) throws IOException {
        String readme = Files.readString(Path.of("README.md"));
        example();
        exampleIsThisOne(readme);
        namesAll(readme);
        Checks.end();
    }

    private static void example() {
        StreamRemuxer x = new StreamRemuxer();
        x.feed(0x01020304, 0x05060708, 0, 0, 0);  // twenty bytes on the tape
        x.packet(8, 960);                         // the first eight are a packet, with the time 960
        int length = x.pages(7, 1, 255);          // the list as pages of the stream 7, into OUT
        int first = x.out(0);                     // 'O' of "OggS"
        x.turn();                                 // OUT comes on the tape
        int packets = x.readPages(length);        // the pages' packets are the list: 1
        long time = x.time(0);                    // 960
        x.elements(3, 8, 20, false);              // the list as elements, into OUT
        x.turn();
        x.patch(0, 0);                            // the first byte can't begin an element now
        int answer = x.readElements(x.count(3));  // -1: a fault; the list stays
        int fault = x.wrong(0);                   // 2: ID
        int place = x.wrong(1);                   // 0: at the file's first byte
        Checks.due("length", length, 36);
        Checks.due("first", first, 'O');
        Checks.due("packets", packets, 1);
        Checks.due("time", time, 960);
        Checks.due("answer", answer, -1);
        Checks.due("fault", fault, 2);
        Checks.due("place", place, 0);
        Checks.due("LIST", Checks.list(x), "960:0102030405060708");
    }

    private static void exampleIsThisOne(String readme) throws IOException {
        String begin = "```java\n";
        int from = readme.indexOf(begin) + begin.length();
        String told = readme.substring(from, readme.indexOf("```", from));
        String own = Files.readString(Path.of("src/test/java/ReadmeTest.java")).replace("\n        ", "\n");
        Checks.due("the example stands in this test", own.contains("\n" + told), true);
    }

    private static void namesAll(String readme) throws IOException {
        try (var files = Files.newDirectoryStream(Path.of("src/test/java"), "*Test.java")) {
            for (Path file : files) {
                String name = file.getFileName().toString().replace(".java", "");
                Checks.due("README.md names " + name, readme.contains("| `" + name + "` |"), true);
            }
        }
        for (var method : StreamRemuxer.class.getDeclaredMethods()) {
            if (Modifier.isPublic(method.getModifiers())) {
                Checks.due("README.md tells " + method.getName(), readme.contains("`" + method.getName() + "("), true);
            }
        }
    }
}
