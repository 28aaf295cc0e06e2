import com.sun.management.ThreadMXBean;
import java.lang.management.ManagementFactory;

/** Dear scripts, run 400 times on one object: the answers of the model, and no room that grows with the calls. */
public final class RoomTest {
    // The whole of a run of calls has room for some 7.3 million elements; this is bytes.
    private static final long MOST_BYTES = 3000000;

    private static final String LINE = "x=abcdefghij; echo $x $x $x $x $x $x $x $x >w; read y <w; ";

    private static final String[] SCRIPTS = {
        // Lines, each one a new row.
        LINE + "while echo $y >p; do x=$?; done;",
        LINE + "while true; do echo $y >>p; echo $y | cat >q; done;",
        // Open files.
        "true >p; while true" + repeat("<p", 150) + "; do true" + repeat(">&1", 40) + "; done;",
        "while exec 3>p 4>q 5<p 6<&5 7>>p; do exec 3>&- 4<&3; exec 3<p 3<p 3<p; done;",
        // Subshells, pipes and jobs.
        "while ()|()|()|()|()|(); do (()|()|()&()|();); done;",
        "def f { a&a&a&a&a&a&a&a&(f;); }; while true; do f; f | f; done;",
        "def f { true&true&true&true&true&true&true&((((b&b&b&b&b&b&b&b&g;);c&c&c&c&c&c&c&c&););d&d&d&d&d&d&d&d&);e& };"
            + "def g { (((f|f;);f&f&f&f&f&f&f&f&);f&f&f&); }; f;",
        // Many lines in pipes at once.
        "{ while echo $y; do x=1; done; } >f; { while echo $y; do x=1; done; } >g;",
        "{ while read x; do cat<p;cat<p;cat<p;cat<p;cat<p;cat<p; done; } <p | cat | cat | { read x; cat; } >q;",
        "while cat <p; do cat <p; cat <p; done | cat;",
        // Calls, traps and jobs at the ends of shells.
        "def f { trap g exit; (trap f exit; raise int;); g | g; }; def g { trap f int; raise int; f & wait; (f;); }; trap f exit; f;",
        "def f { f & f & wait 1; (trap f exit; f&f&f&); fg 2; }; f;",
        "def f { { { { { f & g; } >p; } >q; } 3>p; } 4>q; }; def g { { { { { wait; f; } >p; } >q; } 3>p; } 4>q; }; f;",
        // Long texts of small parts.
        repeat("a&", 350),
        "a" + repeat("|a", 348) + "&",
        repeat("!()&&", 139) + "();",
    };

    private static String repeat(String part, int times) {
        StringBuilder text = new StringBuilder();
        for (int i = 0; i < times; i++) {
            text.append(part);
        }
        return text.toString();
    }

    private static String answers(Driver d) {
        ShellCore x = d.core;
        return x.status() + " " + x.isStopped() + " " + x.begun() + " " + x.forks() + " " + x.jobCount() + " " + d.handles() + d.outputs()
            + " " + d.file("p") + d.file("q") + " " + d.trace();
    }

    private static String answers(Model m) {
        Model.State now = m.now;
        StringBuilder s = new StringBuilder();
        s.append(now.main.status).append(' ').append(now.stopped).append(' ').append(now.begun).append(' ').append(now.forks).append(' ');
        s.append(now.main.jobs.size()).append(' ');
        for (Model.Open open : now.main.handles) {
            s.append(open == null ? '.' : open.kind);
        }
        for (String line : now.output) {
            s.append('/').append(line);
        }
        s.append(' ');
        for (String name : new String[] {"p", "q"}) {
            if (!now.files.containsKey(name)) {
                s.append("null");
                continue;
            }
            for (String line : now.files.get(name)) {
                s.append('/').append(line);
            }
        }
        s.append(' ');
        for (int[] r : now.trace) {
            s.append(' ').append(r[0]).append(':').append(r[1]).append(':').append(r[2]);
        }
        return s.toString();
    }

    private static boolean play(String prelude, String script) {
        Model m = new Model();
        m.load(prelude);
        m.run();
        int chains = m.load(script);
        ThreadMXBean threads = (ThreadMXBean) ManagementFactory.getThreadMXBean();
        long thread = Thread.currentThread().getId();
        long before = threads.getThreadAllocatedBytes(thread);
        Driver d = new Driver();
        d.load(prelude);
        d.core.run();
        int loaded = d.load(script);
        boolean fine = loaded == chains && chains >= 0;
        for (int i = 0; i < 400; i++) {
            d.core.run();
            if (i % 10 == 9) {
                d.core.undo();
                d.core.run();
            }
        }
        long bytes = threads.getThreadAllocatedBytes(thread) - before;
        for (int i = 0; i < 400; i++) {
            m.run();
        }
        String got = answers(d);
        String want = answers(m);
        if (!got.equals(want) || !fine) {
            System.out.println(script + "\n  answered " + got + "\n  due is   " + want);
            fine = false;
        }
        if (bytes > MOST_BYTES) {
            System.out.println(script + "\n  took " + bytes + " bytes");
            fine = false;
        }
        System.out.println(bytes + " bytes, " + d.core.begun() + " begun, " + d.core.forks() + " forks");
        return fine;
    }

    public static void main(String[] args) {
        boolean fine = true;
        String prelude = "y=a; { while echo $y; do true; done; } >p;";
        for (String script : SCRIPTS) {
            fine &= play(prelude, script);
        }
        System.out.println(fine ? "all answers are as due" : "answers are not as due");
        if (!fine) {
            System.exit(1);
        }
    }
}
