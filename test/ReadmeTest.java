import java.nio.file.Files;
import java.nio.file.Path;
import java.util.regex.Matcher;
import java.util.regex.Pattern;

/** What README.md shows: each asked call there answers what stands behind it. */
public final class ReadmeTest {
    public static void main(String[] args) throws Exception {
        String text = Files.readString(Path.of("README.md"));
        Matcher told = Pattern.compile("String town = \"([^\"]+)\";").matcher(text);
        Due.holds("a town is told", told.find());
        CrossesAllOld x = new CrossesAllOld();
        Due.tell(x, told.group(1));
        Matcher asked = Pattern.compile("x\\.(\\w+)\\(([-0-9, ]*)\\)(?:;  +//| is) (-?\\d+)").matcher(text);
        int found = 0;
        while (asked.find()) {
            int[] a = new int[4];
            String[] parts = asked.group(2).isEmpty() ? new String[0] : asked.group(2).split(", ");
            for (int i = 0; i < parts.length; i++) {
                a[i] = Integer.parseInt(parts[i]);
            }
            int call = java.util.Arrays.asList(Model.CALLS).indexOf(asked.group(1));
            Due.is(asked.group(), Long.parseLong(asked.group(3)), StormTest.call(x, call, a[0], a[1], a[2], a[3]));
            found++;
        }
        Due.is("calls shown", 11, found);
        Due.end("ReadmeTest");
    }
}
