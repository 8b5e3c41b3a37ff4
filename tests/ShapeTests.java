import com.sun.management.ThreadMXBean;
import com.sun.source.tree.ClassTree;
import com.sun.source.tree.CompilationUnitTree;
import com.sun.source.tree.MethodInvocationTree;
import com.sun.source.tree.MethodTree;
import com.sun.source.tree.NewArrayTree;
import com.sun.source.tree.NewClassTree;
import com.sun.source.util.JavacTask;
import com.sun.source.util.TreePathScanner;
import com.sun.source.util.Trees;
import java.io.File;
import java.io.IOException;
import java.lang.management.ManagementFactory;
import java.util.ArrayList;
import java.util.LinkedHashMap;
import java.util.LinkedHashSet;
import java.util.List;
import java.util.Map;
import java.util.Set;
import java.util.TreeSet;
import java.util.function.IntConsumer;
import java.util.function.IntSupplier;
import javax.lang.model.element.Element;
import javax.lang.model.element.ElementKind;
import javax.tools.JavaCompiler;
import javax.tools.StandardJavaFileManager;
import javax.tools.ToolProvider;

/** How deep the class's calls go, which of them turn back to themselves, and how much a run makes. */
public final class ShapeTests {
    private static final int DEEPEST = 8;
    private static final int CALLS = 512;
    // Each object takes 16 bytes at least and each number of a row 4 at least: a run of so many bytes stays
    // under 600,000 objects and under 7.3 million numbers.
    private static final long ROOM = 9_000_000;

    private static final Check check = new Check();
    private static final Map<String, Set<String>> calls = new LinkedHashMap<>();
    private static final Set<String> open = new LinkedHashSet<>();
    private static final Set<String> makers = new TreeSet<>();
    private static final Set<String> withDepth = new LinkedHashSet<>();
    private static List<String> longest = new ArrayList<>();

    /** Notes for each method which others of the class it calls, and whether it makes anything. */
    private static final class Collector extends TreePathScanner<Void, Void> {
        private final Trees trees;
        private String within = null;

        Collector(Trees trees) {
            this.trees = trees;
        }

        private static String told(Element method) {
            return method.getEnclosingElement().getSimpleName() + "." + method;
        }

        @Override
        public Void visitMethod(MethodTree method, Void none) {
            Element element = trees.getElement(getCurrentPath());
            String outer = within;
            within = element.getKind() == ElementKind.METHOD ? told(element) : null;
            if (within != null) {
                calls.put(within, new LinkedHashSet<>());
                if (element.getModifiers().contains(javax.lang.model.element.Modifier.PUBLIC)) {
                    open.add(within);
                }
                if (method.getParameters().stream().anyMatch(p -> p.getName().contentEquals("depth"))) {
                    withDepth.add(within);
                }
            }
            super.visitMethod(method, none);
            within = outer;
            return null;
        }

        @Override
        public Void visitMethodInvocation(MethodInvocationTree call, Void none) {
            Element element = trees.getElement(getCurrentPath());
            if (within != null && element != null && element.getKind() == ElementKind.METHOD) {
                calls.get(within).add(told(element));
            }
            return super.visitMethodInvocation(call, none);
        }

        @Override
        public Void visitNewClass(NewClassTree made, Void none) {
            noteMaker();
            return super.visitNewClass(made, none);
        }

        @Override
        public Void visitNewArray(NewArrayTree made, Void none) {
            noteMaker();
            return super.visitNewArray(made, none);
        }

        private void noteMaker() {
            if (within != null) {
                makers.add(within);
            }
        }
    }

    private static void read() throws IOException {
        JavaCompiler compiler = ToolProvider.getSystemJavaCompiler();
        try (StandardJavaFileManager files = compiler.getStandardFileManager(null, null, null)) {
            JavacTask task = (JavacTask) compiler.getTask(null, files, null, List.of("-proc:none"), null,
                files.getJavaFileObjects(new File("src/main/java/RecordHeap.java")));
            Iterable<? extends CompilationUnitTree> units = task.parse();
            task.analyze();
            for (CompilationUnitTree unit : units) {
                new Collector(Trees.instance(task)).scan(unit, null);
            }
        }
        for (Set<String> called : calls.values()) {
            called.retainAll(calls.keySet());
        }
    }

    /** The longest way on from a method on which none stands twice. */
    private static void follow(List<String> way) {
        if (way.size() > longest.size()) {
            longest = new ArrayList<>(way);
        }
        for (String next : calls.get(way.get(way.size() - 1))) {
            if (!way.contains(next)) {
                way.add(next);
                follow(way);
                way.remove(way.size() - 1);
            }
        }
    }

    private static boolean comesBack(String method) {
        Set<String> seen = new LinkedHashSet<>(calls.get(method));
        for (int size = -1; size != seen.size();) {
            size = seen.size();
            for (String s : new ArrayList<>(seen)) {
                seen.addAll(calls.get(s));
            }
        }
        return seen.contains(method);
    }

    private static void depth() {
        for (String method : open) {
            follow(new ArrayList<>(List.of(method)));
        }
        check.due("methods of the face", open.size(), 35);
        check.holds("calls go at most eight deep: " + longest, longest.size() <= DEEPEST);
        for (String method : calls.keySet()) {
            check.holds(method + " turns back to itself with a depth alone", !comesBack(method) || withDepth.contains(method));
        }
    }

    private static void reached() {
        Set<String> all = new LinkedHashSet<>(open);
        for (String method : calls.keySet()) {
            all.addAll(calls.get(method));
        }
        for (String method : calls.keySet()) {
            check.holds(method + " is called", all.contains(method));
        }
    }

    private static void made() {
        check.holds("made outside constructors by these alone: " + makers, makers.equals(
            Set.of("RecordHeap.image(int)", "Log.push(int,RecordHeap.Pages)", "Text.trimmed()")));
    }

    private static long spent(Runnable what) {
        ThreadMXBean threads = (ThreadMXBean) ManagementFactory.getThreadMXBean();
        long before = threads.getCurrentThreadAllocatedBytes();
        what.run();
        return threads.getCurrentThreadAllocatedBytes() - before;
    }

    private static long together;
    private static int answer;

    private static void spend(Runnable what) {
        together += spent(what);
    }

    /** What one object and 512 rounds of dear calls take; the tape is fed apart, so that more of them are made than 512 calls have. */
    private static void room(String name, IntConsumer round) {
        together = 0;
        spend(() -> Bench.fresh());
        spend(() -> Bench.x.image(0));
        for (int i = 0; i < CALLS; i++) {
            round.accept(i);
        }
        check.holds(name + " take " + together + " bytes", together > 0 && together < ROOM);
    }

    private static void spendDue(String call, IntSupplier of, int want) {
        spend(() -> answer = of.getAsInt());
        check.due(call, answer, want);
    }

    private static void rooms() {
        String law = Bench.many("leaves 1+1 if 1=1", ";", 12);
        String many = Bench.many("put 0 of 7 times 20", ";", 4) + ";drop latest;mend times 20;" + Bench.many("pack 1 times 20", ";", 6);
        room("laws", i -> {
            Tape.feed(Bench.x, law);
            spendDue("law", () -> Bench.x.law(), 0);
            spendDue("back", () -> Bench.x.back(0), 0);
        });
        room("orders", i -> {
            Tape.feed(Bench.x, many);
            spendDue("orders", () -> Bench.x.orders(), 221);
            spendDue("undo", () -> Bench.x.undo(), 3);
            spendDue("back", () -> Bench.x.back(0), 0);
        });
        room("records", i -> {
            Tape.feed(Bench.x, Tape.row(200, i & 255));
            spendDue("put", () -> Bench.x.put(), 64);
            spendDue("view", () -> Bench.x.view(64), 200);
            spendDue("sorted", () -> Bench.x.sorted(0), 64);
            spendDue("drop", () -> Bench.x.drop(64), 200);
            spendDue("mend", () -> Bench.x.mend(), 5);
        });
        room("days and the like", i -> {
            spend(() -> Bench.x.days(i, 60));
            spendDue("fit", () -> Bench.x.fit(0), 96);
            spend(() -> Bench.x.few(20, 99));
        });
        room("images", i -> {
            spendDue("image", () -> Bench.x.image(i % 2), 0);
            spendDue("back", () -> Bench.x.back(i % 2), 0);
        });
    }

    public static void main(String[] args) throws IOException {
        read();
        check.begin("shape: how deep calls go");
        depth();
        check.end();
        check.begin("shape: each method is called");
        reached();
        check.end();
        check.begin("shape: what is made outside constructors");
        made();
        check.end();
        check.begin("shape: the room that a run takes");
        rooms();
        check.end();
        check.close();
    }
}
