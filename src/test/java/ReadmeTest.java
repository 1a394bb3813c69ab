import com.sun.management.ThreadMXBean;
import java.io.ByteArrayOutputStream;
import java.io.PrintStream;
import java.lang.management.ManagementFactory;
import java.lang.reflect.Method;
import java.lang.reflect.Modifier;
import java.net.URL;
import java.net.URLClassLoader;
import java.nio.file.Files;
import java.nio.file.Path;
import java.util.Set;
import java.util.TreeSet;
import java.util.regex.Matcher;
import java.util.regex.Pattern;
import javax.tools.JavaCompiler;
import javax.tools.ToolProvider;

/** What README.md says of the class: its program, its table of calls, and that no call makes an object. */
public final class ReadmeTest {
    private static final int TURNS = 200;
    private static final String FULL = "singer a purse 900 bass line 1 2 3; singer b purse 900 deaf; singer c purse 900 line 4;"
        + " singer d purse 900; heir a b; owes a b 9; owes b c 8; owes c a 7; owes a c 6; owes d c 5; owes b a 4; hums 3;";
    private static final String YEARS = "loop 9; any; when debt a to b > 1; pay a to b 1; end; sunday; chord a b; end; cold c; die d;";

    private static String block(String text, String kind) {
        Matcher m = Pattern.compile("```" + kind + "\n(.*?)```", Pattern.DOTALL).matcher(text);
        Check.due("a block of " + kind, m.find(), true);
        return m.group(1);
    }

    private static void programPrints(String readme) throws Exception {
        Path folder = Files.createTempDirectory("readme");
        Path file = folder.resolve("Example.java");
        Files.writeString(file, block(readme, "java"));
        JavaCompiler compiler = ToolProvider.getSystemJavaCompiler();
        int result = compiler.run(null, null, null, "-cp", System.getProperty("java.class.path"), "-d", folder.toString(), file.toString());
        Check.due("compiling the program", result, 0);
        if (result == 0) {
            Check.due("what the program prints", printed(folder), block(readme, "text"));
        }
        try (var files = Files.list(folder)) {
            for (Path p : files.toList()) {
                Files.delete(p);
            }
        }
        Files.delete(folder);
    }

    private static String printed(Path folder) throws Exception {
        PrintStream usual = System.out;
        ByteArrayOutputStream bytes = new ByteArrayOutputStream();
        try (URLClassLoader loader = new URLClassLoader(new URL[] {folder.toUri().toURL()})) {
            System.setOut(new PrintStream(bytes, true));
            loader.loadClass("Example").getMethod("main", String[].class).invoke(null, (Object) new String[0]);
        } finally {
            System.setOut(usual);
        }
        return bytes.toString().replace("\r", "");
    }

    private static void tableHasEachCall(String readme) {
        Set<String> told = new TreeSet<>();
        Matcher row = Pattern.compile("(?m)^\\| (`.*`) \\|").matcher(readme);
        while (row.find()) {
            for (String word : row.group(1).replace("`", "").split(" ")) {
                Check.due(word + " is new in the table", told.add(word), true);
            }
        }
        Set<String> names = new TreeSet<>();
        for (Method m : FalseNotes.class.getDeclaredMethods()) {
            if (Modifier.isPublic(m.getModifiers())) {
                names.add(m.getName());
            }
        }
        Check.due("the table's calls " + told + " beside " + names, told.equals(names), true);
    }

    private static void deeds(FalseNotes x) {
        Check.feed(x, FULL);
        x.choir(FULL.length());
        Check.feed(x, YEARS);
        x.years(YEARS.length());
        x.mark();
        x.live(5);
        x.mean(7, 20);
        x.lend(0, 1, 5);
        x.pay(1, 0, 1);
        x.chords();
        x.clear();
        x.cold(0);
        x.well(0);
        x.die(2);
        x.earn(0, 1);
        x.name(0, 1);
        x.hum(9);
        x.undo();
        Check.feed(x, "singer a purse x");
        x.choir(16);
    }

    private static void questions(FalseNotes x) {
        for (int i = 0; i < 10; i++) {
            x.told(i);
            x.singer(0, i);
            x.grows(i, i);
            x.before(900, i);
            x.when(i, 999);
            x.owedIn(i);
            x.waiting(i, 0);
            x.roundAt(i);
        }
        x.tray(0, 2, 9);
        x.tray(1, 2, 9);
        x.copySung(0, 0);
        x.pour(0, 0, 1, 1, 8);
        x.heard(0, 0);
        x.transposed(0, 0);
        x.forged(0, 0);
        x.payings();
        x.parts();
        x.shorts();
        x.lacking();
        x.richest();
        x.deepest();
        x.bass();
        x.round();
        x.askSet();
        x.chain();
        x.behind(0);
        x.roomiest();
        x.falsest(0);
    }

    /** Bytes that this thread took while all is asked and done so many times, or 0 where the machine does not count. */
    private static long taken(FalseNotes x, int turns) {
        if (!(ManagementFactory.getThreadMXBean() instanceof ThreadMXBean bean) || !bean.isThreadAllocatedMemorySupported()) {
            return 0;
        }
        long ahead = bean.getCurrentThreadAllocatedBytes();
        for (int i = 0; i < turns; i++) {
            deeds(x);
            questions(x);
        }
        return bean.getCurrentThreadAllocatedBytes() - ahead;
    }

    private static void noCallMakesAnObject() {
        FalseNotes x = new FalseNotes();
        Check.due("the CHOIR is taken", Check.choir(x, FULL), 4);
        Check.due("the YEARS are taken", Check.years(x, YEARS), 8);
        taken(x, 3);
        // the least object has 16 bytes: one a turn would be 3,200
        long bytes = taken(x, TURNS);
        Check.due("less than an object a turn: " + bytes + " bytes", bytes < 16 * TURNS, true);
    }

    public static void main(String[] args) throws Exception {
        String readme = Files.readString(Path.of("README.md")).replace("\r", "");
        programPrints(readme);
        tableHasEachCall(readme);
        noCallMakesAnObject();
        Check.end();
    }
}
