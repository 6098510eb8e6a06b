import java.io.IOException;
import java.lang.reflect.Method;
import java.lang.reflect.Modifier;
import java.nio.file.DirectoryStream;
import java.nio.file.Files;
import java.nio.file.Path;

/** What README.md says: its example answers as it says there, and it leaves out no call and no test. */
public final class ReadmeTest {
    private static final String HILLS = "place mill;place bridge;path mill bridge 10;"
        + "walker post plain start 20 pace 2 halt 5 round mill bridge;hour noon by post at bridge is 45;";

    private ReadmeTest() {
    }

    public static void main(String[] args) throws IOException {
        String readme = Files.readString(Path.of("README.md"));
        example(readme);
        for (Method m : HillClock.class.getDeclaredMethods()) {
            if (Modifier.isPublic(m.getModifiers())) {
                Due.is("README names the call " + m.getName(), readme.contains("`" + m.getName() + "`"), true);
            }
        }
        try (DirectoryStream<Path> tests = Files.newDirectoryStream(Path.of("src/test/java"), "*Test.java")) {
            for (Path test : tests) {
                String name = test.getFileName().toString().replace(".java", "");
                Due.is("README names the test " + name, readme.contains("`" + name + "`"), true);
            }
        }
        Due.end();
    }

    private static void example(String readme) {
        HillClock clock = new HillClock();
        Due.feed(clock, HILLS);
        Due.is("the example's hills", clock.hills(), 0);
        says(readme, "clock.hills();        // 0:");
        Due.is("the example's where", clock.where(0, 45), 1);
        says(readme, "clock.where(0, 45);   // 1:");
        Due.is("the example's late", clock.late(0, 10), true);
        says(readme, "clock.late(0, 10);");
        Due.is("the example's hour", clock.hour(0, 3), 55);
        says(readme, "clock.hour(0, 3);     // 55:");
        says(readme, HILLS.substring(0, HILLS.indexOf("walker")));
        says(readme, HILLS.substring(HILLS.indexOf("walker")));
    }

    private static void says(String readme, String what) {
        Due.is("README says " + what, readme.contains(what), true);
    }
}
