import java.io.IOException;
import java.lang.reflect.Method;
import java.lang.reflect.Modifier;
import java.nio.charset.StandardCharsets;
import java.nio.file.Files;
import java.nio.file.Path;
import java.util.ArrayList;
import java.util.List;

/** README.md: its example answers as it says, and it tells each member of the face. */
public final class ReadmeTest {
    private final List<String> lines;
    private final List<String> example = new ArrayList<>();
    private int called = 0;

    private ReadmeTest(List<String> lines) {
        this.lines = lines;
        for (String line : lines) {
            if (line.startsWith("bus.")) {
                example.add(line);
            }
        }
    }

    public static void main(String[] args) throws IOException {
        ReadmeTest test = new ReadmeTest(Files.readAllLines(Path.of("README.md"), StandardCharsets.UTF_8));
        test.exampleAnswersAsTold();
        test.tellsEachMember();
        Checks.finish();
    }

    private void exampleAnswersAsTold() {
        BusTelegrams bus = new BusTelegrams();
        told("bus.send(0, 3, 1, false, 1, 65);", bus.send(0, 3, 1, false, 1, 65));
        told("bus.run(130);", bus.run(130));
        told("bus.answer();", bus.answer());
        told("bus.station(0, 3);", bus.station(0, 3));
        told("bus.byteAt(6);", bus.byteAt(6));
        told("bus.listen(2, 7, true);", bus.listen(2, 7, true));
        told("bus.busy(2, true);", bus.busy(2, true));
        told("bus.send(1, 0, 7, true, 2, 255);", bus.send(1, 0, 7, true, 2, 255));
        told("bus.run(1000);", bus.run(1000));
        told("bus.answer();", bus.answer());
        told("bus.heard(4);", bus.heard(4));
        told("bus.station(1, 4);", bus.station(1, 4));
        told("bus.disturb(1);", bus.disturb(1));
        told("bus.run(15);", bus.run(15));
        told("bus.bit(14);", bus.bit(14));
        told("bus.heard(2);", bus.heard(2));
        told("bus.pack(21.5);", bus.pack(21.5));
        told("bus.unpack(3123);", bus.unpack(3123));
        Checks.due("calls of the example", example.size(), called);
    }

    /** The next line of the example is this call, and says this answer behind it. */
    private void told(String call, Object answer) {
        String line = called < example.size() ? example.get(called) : "";
        called++;
        String[] parts = line.split(" +// ", 2);
        boolean same = parts.length == 2 && parts[0].equals(call)
            && parts[1].split("[: ]", 2)[0].equals(String.valueOf(answer));
        Checks.due("README's line '" + line + "' for " + call + " -> " + answer, same, true);
    }

    private void tellsEachMember() {
        dueRow("`NONE`");
        dueRow("`BusTelegrams()`");
        for (Method method : BusTelegrams.class.getDeclaredMethods()) {
            if (Modifier.isPublic(method.getModifiers())) {
                dueRow("`" + method.getReturnType() + " " + method.getName() + "(");
            }
        }
    }

    private void dueRow(String start) {
        long rows = lines.stream().filter(line -> line.startsWith("| " + start)).count();
        Checks.due("README's rows for " + start, rows, 1);
    }
}
