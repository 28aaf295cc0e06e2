/** The boundaries of the limit, the trace, undo and the questions about a core, each on both sides. */
public final class RunEdgeTest extends Checks {
    private static final int MIN = Integer.MIN_VALUE;
    private static final int MAX = Integer.MAX_VALUE;

    // ---- the limit

    private static String ran(Driver d) {
        return d.core.isStopped() + " " + d.core.begun();
    }

    private static void limit() {
        due("299 commands", ran(runs(repeat("a;", 299), 127, "")), "false 299");
        due("300 commands", ran(runs(repeat("a;", 300), 127, "")), "false 300");
        Driver d = runs(repeat("a;", 300) + "x=1;", 127, "");
        due("301 commands", ran(d) + d.core.variableCount(), "true 3000");
        due("the next run", d.loadAndRun(repeat("a;", 299) + "x=1;") + ran(d) + d.core.variableCount(), "0false 3001");
        due("stopped again", d.loadAndRun(repeat("a;", 301)) + ran(d), "127true 300");
        due("the load forgets it", d.load("") + ran(d), "0false 0");
        due("300 and a compound command", ran(runs(repeat("a;", 299) + "{};", 0, "")), "false 300");
        due("301 with its command", ran(runs(repeat("a;", 299) + "{a;};", 127, "")), "true 300");
        due("301 is a compound command", ran(runs(repeat("a;", 300) + "{};", 127, "")), "true 300");
        due("left out by &&", ran(runs(repeat("a;", 299) + "a&&a;", 127, "")), "false 300");
        due("not left out by ||", ran(runs(repeat("a;", 299) + "a||x=1;", 127, "")), "true 300");
        due("a loop of 300", ran(runsWith(repeat("l\n", 37), "while read x; do " + repeat("a;", 7) + "done; a; a; a;", 127, "")), "true 300");
        due("a loop of 300", ran(runsWith(repeat("l\n", 37), "while read x; do " + repeat("a;", 7) + "done; a; a;", 127, "")), "false 300");
    }

    private static void redirectionsAtTheLimit() {
        due("the 300th is redirected", runs(repeat("a;", 299) + "a>p;", 127, "").file("p"), "");
        due("the 301st is not", runs(repeat("a;", 300) + "a>p;", 127, "").core.fileCount(), 0);
        due("what was written stays", runs("x=1; echo k>p; echo l;" + repeat("a;", 298), 127, "/l").file("p"), "/k");
    }

    private static void shellsAtTheLimit() {
        Driver d = runs(repeat("a;", 300) + "a|a;", 127, "");
        due("a pipeline", ran(d) + " " + d.core.forks(), "true 300 1");
        Driver e = runs(repeat("a;", 299) + "a|a;", 127, "");
        due("the second of a pipeline", ran(e) + " " + e.core.forks(), "true 300 2");
        Driver f = runs(repeat("a;", 298) + "false|true;", 0, "");
        due("not the second of a pipeline", ran(f) + " " + f.core.forks(), "false 300 2");
        Driver g = runs(repeat("a;", 299) + "(true;);", 127, "");
        due("a subshell", ran(g) + " " + g.core.forks() + " " + g.core.traceCount(), "true 300 1 60");
        Driver h = runs(repeat("a;", 298) + "(true;);", 0, "");
        due("not a subshell", ran(h) + " " + h.core.forks(), "false 300 1");
        Driver i = runs(repeat("a;", 300) + "true;", 127, "");
        due("no subshell", i.core.forks(), 0);
    }

    private static void jobsAtTheLimit() {
        Driver d = runs(repeat("a;", 299) + "true&", 0, "");
        due("a job as the 300th", ran(d) + d.core.jobStatus(1), "false 3000");
        Driver e = runs(repeat("a;", 300) + "true&", 0, "");
        due("a job as the 301st", ran(e) + " " + e.core.jobCount() + " " + e.core.forks() + " " + e.core.jobStatus(1), "true 300 1 1 -1");
        Driver f = runs("exit 4&exit 5&" + repeat("a;", 299), 127, "");
        due("the second job", ran(f) + " " + f.core.jobStatus(1) + " " + f.core.jobStatus(2), "true 300 4 -1");
        Driver g = runs("echo no&" + repeat("a;", 301), 127, "");
        due("no jobs are run", ran(g) + " " + g.core.jobCount() + g.core.jobStatus(1), "true 300 1-1");
        Driver h = runs("echo no&" + repeat("a;", 298) + "wait 1; true;", 0, "/no");
        due("wait is the 299th", ran(h) + h.core.jobStatus(1), "true 3000");
        Driver i = runs("echo no&" + repeat("a;", 299) + "wait 1; true;", 127, "");
        due("wait is the 300th", ran(i) + i.core.jobStatus(1), "true 300-1");
    }

    private static void trapsAtTheLimit() {
        String f = "def f{ echo no; }; trap f exit;";
        Driver d = runs(f + repeat("a;", 297), 127, "/no");
        due("300 with the exit function", ran(d) + d.core.actionOf(3), "false 3000");
        Driver e = runs(f + repeat("a;", 298), 127, "");
        due("301 with the exit function", ran(e) + e.core.actionOf(3), "true 3000");
        Driver g = runs(f + repeat("a;", 299), 127, "");
        due("301 before it", ran(g) + g.core.actionOf(3), "true 3006");
        due("an empty exit function", ran(runs("def f{}; trap f exit;" + repeat("a;", 298), 127, "")), "false 300");
        due("the exit function of a subshell", ran(runs("def f{ echo no; }; (trap f exit;" + repeat("a;", 298) + ");", 0, "")), "true 300");
        Driver h = runs("def f{ false; true; }; trap f exit;" + repeat("a;", 296) + "exit 5;", 1, "");
        due("the status as it is in the exit function", ran(h), "true 300");
        Driver i = runs("def f{ false; true; }; trap f exit;" + repeat("a;", 297) + "exit 5;", 5, "");
        due("the status as it is before", ran(i), "true 300");
        Driver k = runs("def f{ false; true; }; trap f exit;" + repeat("a;", 295) + "exit 5;", 5, "");
        due("the status as it was", ran(k), "false 300");
        due("a function of a trap", ran(runs("def f{ true; }; trap f int;" + repeat("a;", 297) + "raise int; a;", 127, "")), "true 300");
    }

    private static void handlesAtTheLimit() {
        Driver d = runs("exec 3>p 0<&-;" + repeat("a;", 299), 127, "");
        due("300 and exec", ran(d) + d.handles(), "false 300.ttw......");
        Driver e = runs("exec 3>p 0<&-;" + repeat("a;", 300), 127, "");
        due("301 and exec", ran(e) + e.handles(), "true 300ttt.......");
        Driver f = new Driver();
        f.load("if ! echo b >&3; then exec 3>p; fi; echo c >&3; if read x; then exec 4>q 3>&- 1<&-; { { while true; do true; done; } >r; } 5>q; fi;");
        due("the first run", f.core.run() + ran(f) + f.handles() + f.file("p"), "0false 6tttw....../c");
        f.type("l\n");
        due("the second run", f.core.run() + ran(f) + f.handles() + f.file("p"), "0true 300tttw....../c/b/c");
        due("the positions go on", f.core.run() + ran(f) + f.handles() + f.file("p"), "0false 5tttw....../c/b/c/b/c");
        Driver g = runs("exec 3>p;" + repeat("echo a>&3;", 3) + "while true; do true; done;", 0, "");
        due("nothing is open any more", g.handles() + g.file("p"), "ttt......./a/a/a");
        Driver h = runs("def f{ f; echo $?; while true; do true; done; }; f;", 0, "/126");
        due("stopped in calls", ran(h), "true 300");
        due("calls nest anew", h.core.run() + ran(h) + h.outputs(), "0true 300/126/126");
    }

    // ---- the trace

    private static void trace() {
        for (int count : new int[] {0, 1, 59, 60, 61, 62, 119, 120, 121, 180, 300}) {
            Driver d = runs(repeat("a;", count), count > 0 ? 127 : 0, "");
            int kept = Math.min(count, 60);
            due(count + " records", d.core.traceCount() + " " + d.core.failures(), kept + " " + kept);
            for (int k = 0; k < kept; k++) {
                due("record " + k, d.core.traceField(k, 0) + " " + d.core.traceField(k, 1) + " " + d.core.traceField(k, 2),
                    2 * (count - kept + k) + " 127 0");
            }
            for (int k : new int[] {kept, kept + 1, -1, MIN, MAX}) {
                stays("record " + k + " of " + kept, d, OUT_OF_BOUNDS, () -> d.core.traceField(k, 0));
            }
        }
        Driver d = runs("x=1; false;", 1, "");
        for (int what : new int[] {-1, 3, MIN, MAX}) {
            stays("field " + what, d, ARGUMENT, () -> d.core.traceField(1, what));
        }
        due("fields", d.core.traceField(1, 0) + " " + d.core.traceField(1, 1) + " " + d.core.traceField(1, 2), "5 1 0");
        due("failures", runs("a;true;a;" + repeat("true;", 58) + "false;", 1, "").core.failures(), 2);
        due("the trace of the latest run", runs("a;", 127, "").core.run() + runs("(a; b;);", 127, "").trace(), "127 1:127:1 4:127:1");
    }

    private static void whatIsRecorded() {
        due("bodies are not", runs("{};();if {};then fi;while ! {};do done;def f{};{ }|( );", 0, "").core.traceCount(), 0);
        due("names and assignments are", runs("x=1; f; true a; ! true; true <q; y=2 <q;", 1, "").trace(),
            " 0:0:0 5:127:0 8:0:0 18:0:0 24:1:0 33:1:0");
        due("a compound command that fails to redirect is not", runs("{ a; } <q; (b;) <q; def f{} <q;", 1, "").trace(), "");
        due("what ends the shell is not", runs("(a; exit;); (raise int; b;); def f{ c; exit 4; }; f | f; f;", 4, "").trace(),
            " 1:127:1 36:127:1 36:127:1 36:127:0");
        due("what sets the end off in another shell is", runs("exit 3& fg 1; read x& wait; exit 3 | true;", 0, "").trace(),
            " 8:3:0 22:0:0 37:0:1");
        due("the 301st is not", runs(repeat("a;", 301), 127, "").core.traceField(59, 0), 598);
        due("no record of a command that the run stops in", runs("def f{ while b; do done; while true; do true; done; }; f;", 0, "")
            .core.traceField(59, 2), 0);
        due("a call is recorded behind what it calls", runs("def f{ a; g; }; def g{ b; }; f;", 127, "").trace(),
            " 7:127:0 23:127:0 10:127:0 29:127:0");
    }

    // ---- undo

    private static void sixActions() {
        Driver d = new Driver();
        stays("no action", d, -1, () -> d.core.undo());
        for (int i = 1; i <= 6; i++) {
            d.type("l" + i + "\n");
            due("actions", d.core.undoDepth(), i);
        }
        String six = d.everything();
        d.type("l7");
        due("the seventh", d.core.undoDepth() + " " + d.core.inputCount(), "6 7");
        due("undo the seventh", d.core.undo() + " " + d.core.inputCount(), "5 6");
        due("but for the depth, as it was", d.everything(), six.replace(" undo 6 ", " undo 5 "));
        for (int left = 4; left >= 0; left--) {
            due("undo", d.core.undo() + " " + d.core.undoDepth() + " " + d.core.inputCount(), left + " " + left + " " + (left + 1));
        }
        stays("none left of seven", d, -1, () -> d.core.undo());
        due("the first one stays", d.core.inputCount(), 1);
        for (int i = 1; i <= 20; i++) {
            d.type("m");
        }
        for (int left = 5; left >= 0; left--) {
            due("undo", d.core.undo() + " " + d.core.inputCount(), left + " " + (left + 15));
        }
        stays("none left of twenty", d, -1, () -> d.core.undo());
        for (int i = 1; i <= 5; i++) {
            d.type("m");
        }
        for (int left = 4; left >= 0; left--) {
            due("undo", d.core.undo() + " " + d.core.inputCount(), left + " " + (left + 15));
        }
        stays("none left of five", d, -1, () -> d.core.undo());
    }

    private static void whatIsAnAction() {
        Driver d = new Driver();
        due("type", d.type("") + " " + d.core.undoDepth(), "0 1");
        due("run", d.core.run() + " " + d.core.undoDepth(), "0 2");
        due("a type that throws", d.type(repeat("\n", 41)) + " " + d.core.undoDepth(), "-1 2");
        d.fill("(");
        throwing("a load that throws", ARGUMENT, () -> d.core.load());
        d.core.append(0, 0, 0, 0, 0);
        d.core.truncate(3);
        due("no actions", d.core.undoDepth(), 2);
        due("a load", d.load("while true; do done;") + " " + d.core.undoDepth(), "1 0");
        due("a run that stops", d.core.run() + " " + d.core.undoDepth(), "0 1");
        due("undone", d.core.undo() + " " + d.core.isStopped() + d.core.begun() + d.core.traceCount(), "0 false00");
        stays("none left", d, -1, () -> d.core.undo());
    }

    private static void whatIsRestored() {
        Driver d = new Driver();
        d.type("1\n2\n3\n");
        d.load("read x; echo $x; echo $x >>p; if a$x; then fi; def f { false& }; trap f exit; trap ignore hup; exec 5>>p 6>q; set pipefail on;"
            + "y=$x; (a; b;); true& exit 4;");
        String[] before = new String[4];
        for (int i = 0; i < 3; i++) {
            before[i] = d.everything();
            d.core.run();
        }
        before[3] = d.everything();
        due("the third run", d.outputs() + d.file("p") + d.core.inputCount() + d.variable("x") + d.core.jobCount(), "/1/2/3/1/2/3032");
        for (int i = 2; i >= 0; i--) {
            due("undo", d.core.undo(), i);
            due("everything", d.everything().replaceAll(" undo .", ""), before[i].replaceAll(" undo .", ""));
        }
        for (int i = 1; i <= 3; i++) {
            d.core.run();
            due("everything again", d.everything().replaceAll(" undo .", ""), before[i].replaceAll(" undo .", ""));
        }
        d.fill("echo k;");
        int length = d.core.formatOutput(1);
        d.core.undo();
        due("formatted text and buffer stay", length + d.text() + d.core.truncate(8) + d.core.truncate(7) + d.core.load(), "12falsetrue1");
        due("files and terminal are those before", d.core.run() + d.outputs() + d.file("p") + d.core.inputCount(), "0/1/2/k/1/21");
    }

    /** Handles that share an open file do so after undo, too, whichever of the ten they are. */
    private static void sharedPositionsRestored() {
        for (int one = 0; one < 10; one++) {
            int other = (one + 3) % 10;
            Driver d = new Driver();
            d.load("if true <q; then read x <&" + one + "; read y <&" + other + "; read z <&" + one
                + "; else cat >p; true >q; exec " + one + "<p " + other + "<&" + one + "; fi;");
            d.type("1\n2\n3\n4\n5\n6\n7\n");
            d.core.run();
            String first = d.handles();
            d.core.run();
            due("handles " + one + " and " + other, d.variable("x") + d.variable("y") + d.variable("z"), "123");
            d.core.run();
            due("go on", d.variable("x") + d.variable("y") + d.variable("z"), "456");
            due("undo", d.core.undo() + d.core.undo() + d.handles(), 2 + 3 + first);
            d.core.run();
            due("again", d.variable("x") + d.variable("y") + d.variable("z"), "123");
            d.core.run();
            d.core.undo();
            d.core.run();
            due("again go on", d.variable("x") + d.variable("y") + d.variable("z"), "456");
        }
    }

    /** Each run of three has other statuses of jobs, and a whole trace of its own. */
    private static void tracesAndJobsRestored() {
        Driver d = new Driver();
        d.type("1\n2\n3\n");
        d.load("read x; exit $x& true& exit $x& " + repeat("(exit $x;); b;", 30) + "if a; then fi; { read y; } <p; wait 1; echo k >p; exit;");
        String[] before = new String[3];
        for (int i = 0; i < 3; i++) {
            d.core.run();
            before[i] = d.state().replaceAll(" undo .", "");
            due("jobs", d.core.jobStatus(1) + " " + d.core.jobStatus(2) + " " + d.core.jobStatus(3), (i + 1) + " 0 " + (i + 1));
        }
        due("undo", d.core.undo() + d.state().replaceAll(" undo .", ""), "2" + before[1]);
        due("undo", d.core.undo() + d.state().replaceAll(" undo .", ""), "1" + before[0]);
        due("run again", d.core.run() + d.state().replaceAll(" undo .", ""), "0" + before[1]);
        Driver e = new Driver();
        e.load("if read x; then " + repeat("b;", 30) + repeat("(c; d;);", 30) + "else " + repeat("e; true;", 32) + "fi;");
        e.core.run();
        String first = e.trace();
        e.type("l");
        e.core.run();
        due("another trace", e.trace().equals(first) + " " + e.core.traceCount(), "false 60");
        String second = e.trace();
        e.core.run();
        due("the first again", e.trace(), first);
        e.core.undo();
        due("undo gives back the whole trace", e.trace(), second);
        e.core.undo();
        e.core.undo();
        due("and the first one", e.trace(), first);
    }

    /** The world is restored in each of its parts, also where it is full. */
    private static void fullWorld() {
        Driver d = new Driver();
        d.load("cat >a; cat <a >b; cat <a >c; cat <a >d; cat <a >e; cat <a >f; cat <a >g; cat <a >h; cat <a; cat <a; cat <a;");
        d.type(repeat("l\n", 39) + "m");
        d.core.run();
        String full = d.state();
        due("full", d.core.fileCount() + " " + d.core.lineCount(7) + " " + d.core.outputCount() + " " + d.core.inputCount(), "8 40 100 0");
        d.type(repeat("n\n", 39));
        d.core.run();
        due("all is new", d.core.lineCount(0) + d.file("h").substring(0, 4), "39/n/n");
        d.core.undo();
        due("the input of 39 lines", d.core.inputCount() + " " + d.core.outputCount() + d.file("h").substring(0, 4), "39 100/l/l");
        d.core.undo();
        due("the full world again", d.state(), full);
        d.core.undo();
        due("the input of 40 lines", d.core.inputCount() + " " + d.core.fileCount() + " " + d.core.outputCount(), "40 0 0");
        due("run again", d.core.run() + d.state().replaceAll(" undo .", ""), "1" + full.replaceAll(" undo .", ""));
    }

    // ---- the questions

    private static void wrongNumbers() {
        Driver d = runs("echo a b; echo c >p; echo d e f >>p; true >abcdefghijkl; x=k; def f{}; exec 3>>p 9<p;", 0, "/a b");
        ShellCore x = d.core;
        for (int handle : new int[] {-1, 10, 11, MIN, MAX}) {
            stays("handle " + handle, d, OUT_OF_BOUNDS, () -> x.handleKind(handle));
        }
        for (int signal : new int[] {-1, -2, 4, 5, MIN, MAX}) {
            stays("signal " + signal, d, OUT_OF_BOUNDS, () -> x.actionOf(signal));
        }
        for (int file : new int[] {-1, 2, 3, 7, 8, MIN, MAX}) {
            stays("lines of file " + file, d, OUT_OF_BOUNDS, () -> x.lineCount(file));
            stays("name of file " + file, d, OUT_OF_BOUNDS, () -> x.formatName(file));
            stays("line of file " + file, d, OUT_OF_BOUNDS, () -> x.formatLine(file, 0));
        }
        for (int line : new int[] {-1, 2, 3, 39, 40, MIN, MAX}) {
            stays("line " + line, d, OUT_OF_BOUNDS, () -> x.formatLine(0, line));
            stays("line " + line, d, OUT_OF_BOUNDS, () -> x.formatLine(1, line));
        }
        stays("line 0 of none", d, OUT_OF_BOUNDS, () -> x.formatLine(1, 0));
        for (int line : new int[] {-1, 1, 2, 99, 100, MIN, MAX}) {
            stays("output " + line, d, OUT_OF_BOUNDS, () -> x.formatOutput(line));
        }
        stays("no variable", d, -1, () -> x.formatVariable(25));
        stays("a function is no variable", d, "-1 false", () -> x.formatVariable(6) + " " + x.isSet(6));
        stays("a variable is no function", d, false, () -> x.isDefined(24));
        stays("no file", d, -1, () -> x.fileNamed(24));
        for (int index : new int[] {-1, 10, 11, 79, 80, MIN, MAX}) {
            stays("byte " + index + " of 10", d, -1, () -> x.formattedByte(index));
        }
        due("handles 0 and 9", x.handleKind(0) + " " + x.handleKind(9) + " " + x.handleKind(8) + " " + x.handleKind(3), "1 2 0 4");
        due("files 0 and 1", x.lineCount(0) + " " + x.lineCount(1), "2 0");
    }

    private static void formattedTexts() {
        String eighty = repeat("abcdefgh", 10);
        Driver d = runsWith(eighty + "\n", "read x; echo $x; echo; echo $x >p; echo $? >>p; true >abcdefghijkl >q; y=$u; z=k; exec 3<p 4>q 5>>p 0<&-;", 0,
            "/" + eighty + "/");
        ShellCore x = d.core;
        due("output of 80 bytes", x.formatOutput(0) + d.text() + x.formattedByte(79) + x.formattedByte(80), "80" + eighty + "104-1");
        due("output of no bytes", x.formatOutput(1) + d.text() + x.formattedByte(0), "0-1");
        due("line of 80 bytes", x.formatLine(0, 0) + d.text() + x.formattedByte(80), "80" + eighty + "-1");
        due("line of a byte", x.formatLine(0, 1) + d.text() + x.formattedByte(1), "10-1");
        due("handles", x.formatHandles() + d.text() + x.formattedByte(10), "10.ttrwa....-1");
        due("variable of 80 bytes", x.formatVariable(24) + d.text(), "80" + eighty);
        due("variable of no bytes", x.formatVariable(25) + d.text() + x.formattedByte(0), "0-1");
        due("variable of a byte", x.formatVariable(26) + d.text() + x.formattedByte(1), "1k-1");
        due("name of 12 bytes", x.formatName(1) + d.text() + x.formattedByte(12), "12abcdefghijkl-1");
        due("name of a byte", x.formatName(2) + d.text() + x.formattedByte(1), "1q-1");
        due("no name: the text stays", x.formatVariable(27) + d.text(), "-1q");
        due("a run: the text stays", x.run() + d.text(), "0q");
        due("a load: the text stays", d.load("a") + d.text() + d.load("a;") + d.text(), "-1q1q");
    }

    private static void freshCore() {
        Driver d = new Driver();
        due("no text", d.core.formattedByte(0) + " " + d.text(), "-1 ");
        stays("no record", d, OUT_OF_BOUNDS, () -> d.core.traceField(0, 0));
        stays("no record", d, OUT_OF_BOUNDS, () -> d.core.traceField(-1, 0));
        stays("no file", d, OUT_OF_BOUNDS, () -> d.core.lineCount(0));
        stays("no file", d, OUT_OF_BOUNDS, () -> d.core.formatName(0));
        stays("no file", d, OUT_OF_BOUNDS, () -> d.core.formatLine(0, 0));
        stays("no output", d, OUT_OF_BOUNDS, () -> d.core.formatOutput(0));
        stays("no job", d, -1, () -> d.core.jobStatus(1));
        due("an empty script", d.core.run() + " " + d.core.begun() + d.core.isStopped() + d.core.undoDepth(), "0 0false1");
        due("an empty buffer", d.core.load() + " " + d.core.type() + " " + d.core.inputCount(), "0 0 0");
        due("constants", ShellCore.NONE + " " + ShellCore.SYNTAX + ShellCore.TOO_DEEP + ShellCore.TOO_LONG + ShellCore.CLOSED + ShellCore.TERMINAL
            + ShellCore.READING + ShellCore.WRITING + ShellCore.APPENDING, "-1 12301234");
    }

    public static void main(String[] args) {
        limit();
        redirectionsAtTheLimit();
        shellsAtTheLimit();
        jobsAtTheLimit();
        trapsAtTheLimit();
        handlesAtTheLimit();
        trace();
        whatIsRecorded();
        sixActions();
        whatIsAnAction();
        whatIsRestored();
        sharedPositionsRestored();
        tracesAndJobsRestored();
        fullWorld();
        wrongNumbers();
        formattedTexts();
        freshCore();
        end();
    }
}
