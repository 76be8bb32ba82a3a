import java.io.IOException;
import java.lang.reflect.Constructor;
import java.lang.reflect.Field;
import java.lang.reflect.Method;
import java.lang.reflect.Modifier;
import java.nio.file.Files;
import java.nio.file.Path;
import java.util.ArrayList;
import java.util.List;
import java.util.Set;
import java.util.TreeSet;

/** What can be seen of LANGUAGE.md from outside: the face, the words of the source, what a call makes. */
public final class LanguageTest {
    private static final Due due = new Due();
    private static final String[] FACE = {
        "int terms(int,int)", "int feed(int,int,int,int,int)", "int end(int)", "int read()", "int fault()",
        "int plant(int,int,int)", "int site()", "int road(int,int,int)", "int scene(int)", "int need(int,int,int)",
        "int change(int,int,int)", "int round()", "int go(int)", "int clear()", "int undo()", "int of(int,int)",
        "int told(int,int)", "int now(int)", "int gap()", "int cut(int,int)", "int tells(int,int)", "int exact(int)",
        "int price(int,int)", "int lack(int,int)", "int rate(int,int,int)", "int floor(int)", "int total(int)",
        "int least(int)", "int regret(int)", "long mean(int)", "int would(int,int)", "int image(int)", "int back(int)",
        "int count(int)", "int status()"};

    public static void main(String[] args) throws IOException {
        face();
        classes();
        words();
        room();
        due.close();
    }

    private static void face() {
        due.part("rule 1, the face");
        Set<String> found = new TreeSet<>();
        for (Method m : SplitProgram.class.getDeclaredMethods()) {
            if (Modifier.isPrivate(m.getModifiers())) {
                continue;
            }
            List<String> types = new ArrayList<>();
            for (Class<?> type : m.getParameterTypes()) {
                types.add(type.getName());
            }
            found.add(m.getReturnType() + " " + m.getName() + "(" + String.join(",", types) + ")");
            due.is(m.getName() + " is public", m.getModifiers(), Modifier.PUBLIC);
        }
        due.is("the methods are the document's: " + found, found.equals(new TreeSet<>(List.of(FACE))) ? 1 : 0, 1);
        for (Field f : SplitProgram.class.getDeclaredFields()) {
            boolean fine = Modifier.isPrivate(f.getModifiers()) || f.getName().equals("NONE");
            due.is("field " + f.getName(), fine ? 1 : 0, 1);
        }
        Constructor<?>[] all = SplitProgram.class.getDeclaredConstructors();
        due.is("one constructor", all.length, 1);
        due.is("it is public", all[0].getModifiers(), Modifier.PUBLIC);
        due.is("public and final", SplitProgram.class.getModifiers(), Modifier.PUBLIC | Modifier.FINAL);
    }

    private static void classes() {
        due.part("rules 1, 5 and 11, classes");
        Set<String> names = new TreeSet<>();
        for (Method m : SplitProgram.class.getDeclaredMethods()) {
            if (Modifier.isPublic(m.getModifiers())) {
                names.add(m.getName());
            }
        }
        Class<?>[] inside = SplitProgram.class.getDeclaredClasses();
        due.is("at most twelve", inside.length < 12 ? 1 : 0, 1);
        for (Class<?> c : inside) {
            due.is(c + " is static", Modifier.isStatic(c.getModifiers()) ? 1 : 0, 1);
            int fields = 0;
            for (Field f : c.getDeclaredFields()) {
                boolean isStatic = Modifier.isStatic(f.getModifiers());
                fields += isStatic ? 0 : 1;
                due.is(f + " is final", !isStatic || Modifier.isFinal(f.getModifiers()) ? 1 : 0, 1);
            }
            due.is(c + " has few fields", fields <= 20 ? 1 : 0, 1);
            for (Method m : c.getDeclaredMethods()) {
                due.is(m + " bears a name of the face", names.contains(m.getName()) ? 1 : 0, 0);
                due.is(m + " takes at most seven", m.getParameterCount() <= 7 ? 1 : 0, 1);
            }
        }
    }

    private static void words() throws IOException {
        due.part("rules 3, 4, 6 and 13, words");
        String source = Files.readString(Path.of("src/main/java/SplitProgram.java"));
        String[] barred = {
            "Float.", "Double.", "Exact", "->", "::", "catch", "throw", "finally", "synchronized", "assert", "instanceof",
            "System.nano", "System.current", "Random", "Thread", "System.out", "HashMap", "hashCode", "toString", "NaN"};
        String code = source.replaceAll("(?s)/\\*.*?\\*/", "").replaceAll("//.*", "");
        for (String word : barred) {
            due.is("the source has " + word, code.contains(word) ? 1 : 0, 0);
        }
        String imports = code.replaceAll("(?s)import java\\.util\\.Arrays;", "");
        due.is("other imports", imports.contains("import ") ? 1 : 0, 0);
        int longest = 0;
        int from = 0;
        String[] lines = source.split("\n");
        for (int i = 0; i < lines.length; i++) {
            if (lines[i].matches("\\s+(public |private |static |final )*[a-zA-Z\\[\\]]*\\s*[a-zA-Z]+\\([^;]*\\) \\{")) {
                from = i;
            }
            if (lines[i].matches(" {4}( {4})?\\}")) {
                longest = Math.max(longest, i - from + 1);
            }
        }
        due.is("methods stay short: " + longest, longest <= 60 ? 1 : 0, 1);
    }

    /** A call makes nothing: all rows are made with the object. */
    private static void room() {
        due.part("rule 12, what a call makes");
        com.sun.management.ThreadMXBean bean =
            (com.sun.management.ThreadMXBean) java.lang.management.ManagementFactory.getThreadMXBean();
        SplitProgram x = Due.from("plant 40 12 3;plant 25 9 2;plant 60 20 2;plant 15 5 3;site;site;site;site;road 0 0 3;"
            + "road 0 1 7;road 1 1 4;road 1 3 6;road 2 0 9;road 2 2 8;road 3 3 1;case 1 3 4 5 6;case 2 9 8 1 2;case 1 1 1 1 1");
        long answers = 0;
        for (int warm = 0; warm < 2; warm++) {
            long before = bean.getThreadAllocatedBytes(Thread.currentThread().getId());
            answers += allCalls(x);
            long made = bean.getThreadAllocatedBytes(Thread.currentThread().getId()) - before;
            if (warm == 1) {
                due.is("bytes made by calls (" + answers + ")", made, 0);
            }
        }
    }

    private static long allCalls(SplitProgram x) {
        long sum = x.terms(1, 1) + x.clear() + x.go(99) + x.image(0) + x.least(0) + x.would(0, 0) + x.would(1, 1) + x.regret(255);
        sum += x.road(0, 2, 5) + x.round() + x.need(0, 0, 9) + x.go(99) + x.change(0, 1, 20) + x.go(9) + x.exact(0);
        sum += x.feed(0x73697465, 0x3b636173, 0x65203120, 0x37202020, 0x20202020) + x.end(18) + x.read() + x.undo();
        sum += x.feed(1, 2, 3, 4, 5) + x.read() + x.fault() + x.plant(1, 1, 1) + x.site() + x.scene(1) + x.undo() + x.mean(165);
        for (int plan = 0; plan < 256; plan++) {
            sum += x.total(plan) + x.floor(plan) + x.price(0, plan) + x.lack(1, plan) + x.rate(1, plan, 2) + x.tells(0, plan);
        }
        for (int k = -1; k < 18; k++) {
            sum += x.now(k) + x.count(k) + x.cut(k, k) + x.of(0, k) + x.told(0, k) + x.gap() + x.status();
        }
        return sum + x.back(0);
    }
}
