import java.io.IOException;
import java.lang.management.ManagementFactory;
import java.lang.reflect.Constructor;
import java.lang.reflect.Field;
import java.lang.reflect.Method;
import java.lang.reflect.Modifier;
import java.nio.file.Files;
import java.nio.file.Path;
import java.util.Arrays;
import java.util.List;
import java.util.Set;
import java.util.TreeSet;
import java.util.regex.Matcher;
import java.util.regex.Pattern;

/** The document's face, the rules of LANGUAGE.md as far as they can be seen from outside, and the room that a run takes. */
public final class FaceTest {
    private static final Due due = new Due();
    private static final Path DOCUMENT = Path.of("../shared/DOC.md");

    private static final String FACE = "feed(int,int,int,int,int)int text(int)int fault()int where()int about(int)int "
            + "function(int,int)int term(int,int)int partOf(int,int)int sameOf(int,int)int diffOf(int,int)int "
            + "joinOf(int,int)int height(int)int hung(int,int)int equal(int,int)int apart(int,int)int reasons(int,int)int "
            + "pruned(int,int)int fewest(int,int)int proves(int,int,int)int since(int,int)int needed(int,int)int "
            + "many(int,int)int base()int level(int,int)int cost(int,int)int way(int,int,int)int core()int "
            + "would(int,int,int)int next(int,int,int,int)int without(int,int)int free()int join(int,int)int "
            + "part(int,int)int make(int,int,int,int)int undo()boolean named(int)int size()int trouble()int";

    public static void main(String[] args) throws IOException {
        face();
        classes();
        String file = Files.readString(Path.of("src/main/java/ReasonCloser.java"));
        source(file);
        if (Files.exists(DOCUMENT)) {
            document(Files.readString(DOCUMENT), file);
        }
        room();
        due.end();
    }

    private static void no(String what, boolean found) {
        due.yes("rule: " + what, !found);
    }

    // rule 1
    private static void face() {
        Class<?> c = ReasonCloser.class;
        due.yes("public final class", Modifier.isPublic(c.getModifiers()) && Modifier.isFinal(c.getModifiers()));
        Set<String> seen = new TreeSet<>();
        Set<String> names = new TreeSet<>();
        for (Method m : c.getDeclaredMethods()) {
            if (!Modifier.isPrivate(m.getModifiers())) {
                due.yes("public: " + m, Modifier.isPublic(m.getModifiers()) && !Modifier.isStatic(m.getModifiers()));
                StringBuilder told = new StringBuilder(m.getName()).append('(');
                for (Class<?> type : m.getParameterTypes()) {
                    told.append(told.charAt(told.length() - 1) == '(' ? "" : ",").append(type);
                }
                seen.add(told.append(')').append(m.getReturnType()).toString());
                names.add(m.getName());
            }
        }
        due.yes("the face: " + seen, seen.equals(new TreeSet<>(Arrays.asList(FACE.split(" ")))));
        for (Constructor<?> made : c.getDeclaredConstructors()) {
            due.yes("one constructor", Modifier.isPublic(made.getModifiers()) && made.getParameterCount() == 0);
        }
        for (Field f : c.getDeclaredFields()) {
            due.yes("field " + f, f.getName().equals("NONE") == Modifier.isPublic(f.getModifiers())
                    && f.getName().equals("NONE") != Modifier.isPrivate(f.getModifiers()));
        }
        for (Class<?> inside : c.getDeclaredClasses()) {
            for (Method m : inside.getDeclaredMethods()) {
                no("a face's name inside: " + m, names.contains(m.getName()));
            }
        }
        for (Method m : c.getDeclaredMethods()) {
            no("a private method with a face's name: " + m, Modifier.isPrivate(m.getModifiers()) && names.contains(m.getName()));
        }
    }

    // rules 1, 5, 11
    private static void classes() {
        List<Class<?>> all = new java.util.ArrayList<>(List.of(ReasonCloser.class));
        all.addAll(Arrays.asList(ReasonCloser.class.getDeclaredClasses()));
        no("more than twelve classes", all.size() > 12);
        for (Class<?> c : all) {
            int own = 0;
            for (Field f : c.getDeclaredFields()) {
                boolean fixed = Modifier.isStatic(f.getModifiers());
                own += fixed ? 0 : 1;
                no("a static field that isn't a constant: " + f, fixed && (!Modifier.isFinal(f.getModifiers())
                        || !f.getType().isPrimitive()));
            }
            no("more than twenty fields: " + c, own > 20);
            if (c != ReasonCloser.class) {
                due.yes("static inside: " + c, Modifier.isStatic(c.getModifiers()));
                no("public inside: " + c, Modifier.isPublic(c.getModifiers()) || Modifier.isProtected(c.getModifiers()));
            }
            for (Method m : c.getDeclaredMethods()) {
                no("more than seven parameters: " + m, m.getParameterCount() > 7);
            }
        }
    }

    // rules 3, 4, 6, 10, 11
    private static void source(String file) {
        String code = file.replaceAll("(?s)/\\*.*?\\*/", "").replaceAll("//[^\n]*", "").replaceAll("\"[^\"\n]*\"", "\"\"");
        no("a sign that isn't 1 to 127", !file.matches("(?s)[\\x01-\\x7f]*"));
        due.yes("one import", code.split("\\bimport\\b").length == 2 && code.contains("import java.util.NoSuchElementException;"));
        for (String word : List.of("->", "::", "catch", "finally", "synchronized", "assert", "instanceof", "Exact", "Object",
                "package", "equals", "hashCode", "toString", "double", "float", "volatile", "transient", "native", "record",
                "static {", "== null", "Thread", "Random", "System.out", "currentTimeMillis", "nanoTime", "[][]")) {
            no("the word " + word, code.contains(word));
        }
        Matcher library = Pattern.compile("\\b(Math|Integer|Long|System|Arrays|String|StringBuilder)\\b\\.?(\\w*)").matcher(code);
        while (library.find()) {
            due.yes("library: " + library.group(), List.of("Math.min", "Math.max", "Integer.bitCount",
                    "System.arraycopy").contains(library.group()));
        }
        Matcher thrown = Pattern.compile("throw\\b[^;]*;").matcher(code);
        while (thrown.find()) {
            due.yes("thrown: " + thrown.group(), thrown.group().equals("throw new NoSuchElementException(\"\");"));
        }
        lengths(file.split("\n"));
    }

    private static void lengths(String[] lines) {
        int head = -1;
        String indent = "";
        for (int at = 0; at < lines.length; at++) {
            Matcher begins = Pattern.compile("^((?: {4}){1,2})(?!.*\\b(class|new|switch|if|for|while|return)\\b).*\\) *(throws \\w+ )?\\{$")
                    .matcher(lines[at]);
            if (begins.find()) {
                head = at;
                indent = begins.group(1);
            } else if (head >= 0 && lines[at].equals(indent + "}")) {
                no("more than sixty lines: " + lines[head].trim(), at - head + 1 > 60);
                head = -1;
            }
            no("a line of more than 125 signs: " + (at + 1), lines[at].length() > 125);
        }
    }

    /** The file's public lines are those of the document's code block, in its order, under the headings that it names. */
    private static void document(String told, String file) {
        String block = told.substring(told.indexOf("```java") + 7, told.indexOf("## Terms"));
        List<String> face = block.lines().map(String::trim).filter(line -> line.startsWith("public"))
                .map(line -> line.replaceAll("[;{]$", "").trim()).toList();
        List<String> written = file.lines().filter(line -> line.matches("( {4})?public .*"))
                .map(line -> line.replaceAll("[;{]$", "").trim()).toList();
        due.is("lines of the document's code block", face.size(), 41);
        due.yes("the file's public lines " + written, written.equals(face));
        Matcher heading = Pattern.compile("Ahead of the calls (.*) the interface says: (---- .*)\\.").matcher(told);
        int headings = 0;
        while (heading.find()) {
            headings++;
            String under = file.split(Pattern.quote("// " + heading.group(2) + "\n"), 2)[1].split("// ----|\n    private ", 2)[0];
            StringBuilder calls = new StringBuilder();
            Matcher call = Pattern.compile("(?m)^    public \\w+ (\\w+)\\(").matcher(under);
            while (call.find()) {
                calls.append(calls.length() == 0 ? "" : ", ").append('`').append(call.group(1)).append('`');
            }
            due.yes("under " + heading.group(2) + ": " + calls, calls.toString().equals(heading.group(1)));
        }
        due.is("headings", headings, 6);
    }

    /** What 512 of the dearest calls make, counted by the bytes that the thread takes. */
    private static void room() {
        com.sun.management.ThreadMXBean meter = (com.sun.management.ThreadMXBean) ManagementFactory.getThreadMXBean();
        long id = Thread.currentThread().getId();
        if (!meter.isThreadAllocatedMemorySupported() || !meter.isThreadAllocatedMemoryEnabled()) {
            return;
        }
        dearRun();
        long before = meter.getThreadAllocatedBytes(id);
        int answers = dearRun();
        long taken = meter.getThreadAllocatedBytes(id) - before;
        due.yes("answers " + answers, answers > 0);
        no("more than 200,000 bytes in a run: " + taken, taken > 200000);
    }

    /** 24 TERMS, 12 SAMES and 8 DIFFS, of which all bear on one another; then texts that are read and refused. */
    private static int dearRun() {
        ReasonCloser x = Due.object("fun a 0;fun b 0;fun c 0;fun d 0;fun g 1;fun h 2;term p=a;term q=b;term r=c;term s=d");
        for (int k = 4; k < 24; k++) {
            x.make(k % 2 == 0 ? 4 : 5, k - 4, k - 3, 0);
        }
        for (int k = 0; k < 12; k++) {
            x.join(k % 4, (k + 1 + k / 4) % 4);
        }
        for (int k = 0; k < 8; k++) {
            x.part(k, 23 - k);
        }
        int sum = 0;
        for (int k = 0; k < 40; k++) {
            int t = k % 24;
            sum += x.many(t, t % 4) + x.fewest(t, t % 4) + x.core() + x.pruned(t, t % 4) + x.needed(t, t % 4)
                    + x.level(t, t % 4) + x.way(t, t % 4, 3) + x.free() + x.base() + x.would(t, 5, 1) + x.next(t, 5, 2, 0);
            sum = Math.max(sum, 1);
        }
        return sum;
    }
}
