import java.io.IOException;
import java.lang.reflect.Method;
import java.nio.file.Files;
import java.nio.file.Path;
import java.util.ArrayList;
import java.util.List;

/** README.md: its example stands here line by line and answers as it says there, and it names all calls. */
public final class ReadmeTest extends Checks {
    private static final String BEGIN = "// The example:";
    private static final String END = "// So far the example.";

    public static void main(String[] args) {
        runAll(ReadmeTest.class);
    }

    static void promisesOfTheExample() {
        // The example:
        SkinCarriers x = new SkinCarriers();
        String text = "station a high 0 fall 0; station b high 40 fall 2; station c high 90 fall 0;"
            + " way a b long 30 thorns 1; way b c long 20 thorns 0; way a c long 99 thorns 0;"
            + " carrier ann plain skin 20 leak 1 thirst 3; carrier gus goat skin 10 leak 0 thirst 1;"
            + " owes ann gus 5; price 10 - came; spring 25; noon 120;";
        for (int at = 0; at < text.length(); at += 8) {
            long eight = 0;
            for (int i = at; i < at + 8; i++) {
                eight = eight << 8 | (i < text.length() ? text.charAt(i) : 0); // 0 is left out
            }
            x.feed(eight, 0, 0);
        }
        int fault = x.mountain();           // 0: no fault
        int paths = x.paths();              // 2: a b c, a c
        int left = x.trip(0, 0, 20, 0);     // 11 mouthfuls are left of ann's 20 by the first path
        int together = x.plan(-1);          // 16 can be above by noon,
        int load = x.plan(0);               // if ann takes 15 (and gus 10)
        int route = x.plan(1);              // by the first path
        int brought = x.send(0, 0, 20);     // 13: the fall at b put 2 into her skin
        int paid = x.carrier(0, 6);         // 130: 10 for each mouthful
        int payments = x.settled();         // 1 payment settles all debts
        boolean wasPaid = x.owe(0, 1, 0);   // true: ann owes nothing now
        boolean isUndone = x.undo();        // true: and now she owes 5 again
        // So far the example.
        due("fault", fault, 0);
        due("paths", paths, 2);
        due("left", left, 11);
        due("together", together, 16);
        due("load", load, 15);
        due("plan(2)", x.plan(2), 10);
        due("route", route, 0);
        due("brought", brought, 13);
        due("paid", paid, 130);
        due("payments", payments, 1);
        due("wasPaid", wasPaid, true);
        due("isUndone", isUndone, true);
        due("owes(0, 1)", x.owes(0, 1), 5);
    }

    static void promisesOfTheExampleInReadme() throws IOException {
        List<String> here = between(linesOf("src/test/java/ReadmeTest.java"), BEGIN, END);
        List<String> there = between(linesOf("README.md"), "```java", "```");
        due("lines of the example", there.size(), here.size());
        for (int i = 0; i < there.size() && i < here.size(); i++) {
            if (!there.get(i).equals(here.get(i))) {
                tell("README.md has <" + there.get(i) + ">, due is <" + here.get(i) + ">");
            }
        }
    }

    static void promisesAllAreNamed() throws IOException {
        String page = Files.readString(Path.of("README.md"));
        for (Method method : SkinCarriers.class.getMethods()) {
            if (method.getDeclaringClass() == SkinCarriers.class && !page.contains("`" + method.getName() + "`")) {
                tell("README.md does not name " + method.getName());
            }
        }
    }

    private static List<String> linesOf(String file) throws IOException {
        return Files.readAllLines(Path.of(file));
    }

    /** The lines behind the first that is begin, up to the next that is end, without the blanks ahead of them. */
    private static List<String> between(List<String> lines, String begin, String end) {
        List<String> found = new ArrayList<>();
        boolean isIn = false;
        for (String line : lines) {
            String bare = line.strip();
            if (isIn && bare.equals(end)) {
                return found;
            }
            if (isIn) {
                found.add(bare);
            }
            isIn = isIn || bare.equals(begin);
        }
        tell("no example between " + begin + " and " + end);
        return found;
    }
}
