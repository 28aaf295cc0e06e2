/** The sentences of the document that speak of two things at once: each kind of meeting, with what is due by the document's words. */
public final class TogetherTest extends Checks {
    private static String ran(Driver d) {
        return d.core.isStopped() + " begun " + d.core.begun() + " forks " + d.core.forks();
    }

    /** All answers but the depth of undo, which an undone action leaves smaller by one. */
    private static String answers(Driver d) {
        return d.everything().replaceAll(" undo .", "");
    }

    // ---- a redirection that fails in a pipeline's command

    private static void failingRedirectionsInPipelines() {
        runs("echo a | cat <q | cat; echo $?;", 0, "/0");
        runs("set pipefail on; echo a | cat <q | cat; echo $?;", 0, "/1");
        runs("set pipefail on; exit 3 <q | exit 4; echo $?; exit 5 | exit 6 <q | true; echo $?;", 0, "/4/1");
        runs("echo a | cat | cat <q; echo $?; ! echo a | cat <q; echo $?;", 0, "/1/0");
        runs("exit 3 <q | true; echo $?; (exit 3;) <q | exit 4; echo $?; true | { exit 3; } <q; echo $?;", 0, "/0/4/1");
        runs("if echo a <q | false <q; then echo no; else echo $?; fi; while ! true | cat <q; do exit 3; done;", 3, "/1");
        runs("true | false <q && echo no || echo a; true <q | true && echo b;", 0, "/a/b");
        runs("exec 1>&- <q | echo a; echo b; exec 3>&7 | exec <&7; echo $?;", 0, "/a/b/1");
        runs("echo a >&7 | cat; echo $?; echo a | cat <&7; echo $?; echo a | cat 3<&0 0<&4; echo $?;", 0, "/0/1/1");
        due("the ninth file", runs("true >a >b >c >d >e >f >g >h; echo k | cat >i; echo $?; echo k >i | cat; echo $?;", 0, "/1/0")
            .core.fileCount(), 8);
        Driver d = runs("echo a >p <q | cat;", 0, "");
        due("made before the failure", d.file("p") + d.handles() + d.trace(), "ttt....... 0:1:1 15:0:1");
        due("both are begun in a subshell", ran(d), "false begun 2 forks 2");
        Driver e = runs("{ echo a; } <q | { cat; echo b; };", 0, "/b");
        due("a body that is not executed", ran(e) + e.trace(), "false begun 4 forks 2 19:0:1 24:0:1");
        Driver f = runs("def f{ echo a; }; f <q | f 3<q | f >p; echo $?;", 0, "/0");
        due("functions", f.file("p") + f.trace(), "/a 18:1:1 25:1:1 7:0:1 33:0:1 39:0:0");
        Driver g = runs("{ echo a | cat <q; echo $?; } >p | cat <&7; echo $?;", 0, "/1");
        due("in a pipeline's body", g.file("p"), "/1");
        runs("true <q | true & wait 1; echo $?; true | true <q & wait 2; echo $?;", 0, "/0/1");
    }

    // ---- a shell that ends inside a function, a condition or a pipeline

    private static void endsInFunctions() {
        Driver d = runs("def f { echo a; exit 3; echo no; }; echo b; f >p; echo no;", 3, "/b");
        due("set back, and not recorded", d.file("p") + d.handles() + d.trace(), "/attt....... 36:0:0 8:0:0");
        runs("def f{ exit 3; }; def g{ f >p; echo no; }; (g; echo no;); echo $?; g && echo no || echo no;", 3, "/3");
        runs("def f{ raise int; echo no; }; def g{ exit 4; }; (f;); echo $?; (trap g int; f;); echo $?; trap g int; f;", 4, "/130/4");
        runs("def f{ while true; do if true; then exit 3; fi; done; }; (f;); echo $?; f | true; echo $?; f& wait 1; echo $?;", 0, "/3/0/3");
        runsWith("l", "def f{ read x; echo no; }; { f; echo no; }& wait 1; echo $?; f& fg 2; echo $?;", 0, "/149/no/0");
        runs("def f{g;};def g{h;};def h{k;};def k{exit 5;};def z{ def k{ echo a; }; g; f; echo $?; }; trap z exit; f; echo no;", 5, "/a/126");
        runs("def f{g;};def g{h;};def h{k;};def k{ true& exit 5; }; f; echo no;", 5, "");
        due("exec in a function that ends", runs("def f{ exec 4>q; exit 3; }; def g{ exec 5>r; f 3>p; }; g;", 3, "").handles(), "ttt..w....");
    }

    private static void endsInConditions() {
        runs("if exit 4; then echo no; else echo no; fi; echo no;", 4, "");
        runs("while exit 4; do echo no; done; echo no;", 4, "");
        runs("while ! exit 6; do echo no; done; echo no;", 6, "");
        runs("! exit 7; echo no;", 7, "");
        runs("if true && exit 5 || echo no; then fi; echo no;", 5, "");
        runs("if false || ! exit 256; then echo no; fi; echo no;", 0, "");
        runs("if raise term; then echo no; fi; echo no;", 143, "");
        runs("false; if exit; then echo no; else echo no; fi;", 1, "");
        runs("if (exit 3;); then echo no; else echo $?; fi; while ! (exit 3;); do echo a; exit 8; done;", 8, "/3/a");
        runsWith("l", "{ if read x; then echo no; else echo no; fi; echo no; }& wait 1; echo $?; read x; echo $x;", 0, "/149/l");
        runsWith("l", "{ while read x; do echo no; done; echo no; }& echo a; wait 1; echo $?;", 0, "/a/149");
        runs("def f{ exit 9; }; if f; then echo no; fi; echo no;", 9, "");
        runs("def f{ echo $?; }; trap f exit; while true; do if exit 3; then fi; done;", 3, "/3");
        runs("(while true; do while true; do if exit 3; then fi; done; done;); echo $?; if { (exit 4;); }; then else echo $?; fi;", 0, "/3/4");
        Driver d = runs("if { exec 3>q; exit 3; } >p; then fi;", 3, "");
        due("set back", d.handles() + d.trace(), "ttt....... 5:0:0");
    }

    private static void endsInPipelines() {
        runs("exit 3 | echo a; echo $?; echo b | exit 4; echo $?; ! exit 5 | exit 6; echo $?;", 0, "/a/0/4/0");
        runs("def f{ exit 3; }; f | f; echo $?; echo a | f && echo no; if f | true; then echo b; fi; f | cat; f; echo no;", 3, "/3/b");
        runs("raise int | true; echo $?; true | raise int; echo $?; trap ignore int; true | raise int; echo $?;", 0, "/0/130/0");
        runs("set pipefail on; exit 3 | raise term | true; echo $?; { exit 5 | true; } || echo $?;", 0, "/143/5");
        runs("{ echo a; exit 3; echo no; } | { cat; exit 4; echo no; }; echo $?;", 0, "/a/4");
        runs("while true; do echo a; exit 3; done | while read x; do echo $x; exit 5; done; echo $?;", 0, "/a/5");
        runs("exit 3 | exit 4 | exit 5; echo $?; (exit 3 | exit 4; exit 6;) | true; echo $?; exit 7 | (exit 8;); echo $?;", 0, "/5/0/8");
        runsWith("l", "{ true | read x; echo $?; read x | true; echo $?; { cat | cat; } <p; echo $?; }& wait; read x; echo $x;", 0, "/1/0/1/l");
        Driver d = runs("echo k | { exec 3>p 1>&-; exit 3; }; exec 4>q | exit 9;", 9, "");
        due("the handles are others", d.handles() + d.trace(), "ttt....... 0:0:1 11:0:1 37:0:1");
    }

    // ---- a handle that is duplicated and then shared with a subshell or a job

    private static void duplicatedForWriting() {
        due("a subshell and a job", runs("exec 3>p 4>&3; (echo a >&3;); echo b >&4& wait; echo c >&3;", 0, "").file("p"), "/a/b/c");
        due("a job later", runs("exec 3>p 4>&3; echo j >&4& echo a >&3; (echo b >&4;); wait 1; echo c >&3;", 0, "").file("p"), "/a/b/j/c");
        due("a job at the end", runs("exec 3>p 4>&3; { echo i >&3; echo j >&4; }& echo a >&4; exec 3>&- 4>&-;", 0, "").file("p"), "/a/i/j");
        Driver d = runs("exec 3>p 4>&3; (exec 3>&- 4>q; echo a >&4;); echo b >&3; echo c >&4;", 0, "");
        due("closed in the subshell only", d.file("p") + d.file("q") + d.handles(), "/b/c/atttww.....");
        Driver e = runs("exec 3>p; echo a >&3& exec 3>&-; wait 1; echo $?; echo b >&3;", 1, "/0");
        due("the job has a copy", e.file("p") + e.handles(), "/attt.......");
        due("a job that has none", runs("echo a >&3& exec 3>p; wait 1; echo $?;", 0, "/1").file("p"), "");
        due("a file that loses its lines", runs("exec 3>p 4>&3; echo a >&3; (true >p; echo b >&4;); echo c >&3;", 0, "").file("p"), "//b/c");
        due("back behind the body", runs("{ (echo a >&3;); echo b >&4& } 3>p 4>&3; wait; (echo c >&3;); echo $?;", 0, "/1").file("p"), "/a/b");
        due("one that a function gets", runs("def f{ echo a >&4; (echo b >&4;); echo c >&4& }; exec 3>p; f 4>&3; echo d >&3; wait; echo e >&3;", 0, "")
            .file("p"), "/a/b/d/c/e");
        due("appending", runs("exec 3>>p 4>&3; echo a >&3; true >p; (echo b >&4;); echo c >>p; echo d >&3& wait;", 0, "").file("p"), "/b/c/d");
        runs("{ exec 3>&1; (echo a >&3;); echo b >&3& echo c; } | cat;", 0, "/a/c/b");
        runs("{ { echo a >&3; echo b; } 3>&1 | cat >&2; } | { cat; echo c; };", 0, "/a/b/c");
        runs("{ { echo a >&3; echo b; } | cat >p; } 3>&1 | { read x; echo $x 1; cat; }; cat <p;", 0, "/a 1/b");
    }

    private static void duplicatedForReading() {
        String five = "{ echo 1; echo 2; echo 3; echo 4; echo 5; } >p; exec 3<p 5<&3;";
        runs(five + "(read x <&3; echo $x;); { read x <&5; echo $x; }& wait; read x <&3 | read y <&5; read x <&5; echo $x;", 0, "/1/2/5");
        runs(five + "cat <&5& read x <&3; echo $x; wait; read x <&3; echo $?;", 0, "/1/2/3/4/5/1");
        runs(five + "exec 6<p; read x <&6& wait; read x <&3; read y <&6; echo $x $y;", 0, "/1 2");
        runs(five + "(exec 3<&-; read x <&5; exec 5<p; read x <&5; echo $x;); read x <&3; echo $x;", 0, "/1/2");
        runs(five + "{ read x; (read x; echo $x;); read x <&3; echo $x; } <&5; read x <&5; echo $x;", 0, "/2/3/4");
        runs("{ echo 1; echo 2; echo 3; } | { exec 3<&0; (read x <&3; echo $x;); { read x <&3; echo $x; }& wait; read x; echo $x; };", 0, "/1/2/3");
        runsWith("l", "exec 5<&0; { read x <&5; echo no; }& wait 1; echo $?; (read x <&5; echo $x;);", 0, "/149/l");
    }

    // ---- a trap of exit in a subshell and in a job

    private static void exitFunctions() {
        runs("def f{ echo e; }; trap f exit; (true;); true& wait; echo a | cat; echo b;", 0, "/a/b/e");
        String f = "def f{ echo e $?; };";
        runs(f + "(trap f exit; exit 3;); echo $?; { trap f exit; exit 4; }& wait 1; echo $?; { trap f exit; exit 5; }& fg 2; echo $?;", 0,
            "/e 3/3/e 4/4/e 5/5");
        runs(f + "(trap f exit; raise int;); echo $?; { trap f exit; raise term; }& wait 1; echo $?;", 0, "/e 130/130/e 143/143");
        runs(f + "(trap f exit; (exit 3;);); (trap f exit; (trap f exit; exit 4;); false;);", 1, "/e 3/e 4/e 1");
        due("ignore stays", runs(f + "trap ignore exit; (trap f exit;); { trap f exit; }& wait; (true;); exit 5;", 5, "/e 0/e 0").core.actionOf(3),
            -2);
        Driver d = runs(f + "(trap f exit; true;); { trap f exit; }& trap default int;", 0, "/e 0/e 0");
        due("of the others only", d.core.actionOf(3) + " " + d.core.jobStatus(1) + " " + d.core.functionCount(), "0 0 1");
        runs("def f{ echo e; }; trap f exit; { trap f exit; echo j; }& echo a;", 0, "/a/e/j/e");
        runs("def f{ echo $x; x=3; }; x=1; (trap f exit; x=2;); { trap f exit; }& x=4; wait; echo $x;", 0, "/2/1/4");
        due("depths", runs("def f{ a; }; (trap f exit;); { trap f exit; }& (wait;);", 0, "").trace(), " 14:0:1 7:127:1 48:0:1 31:0:1 7:127:1");
    }

    private static void exitFunctionsAndHandles() {
        String f = "def f{ echo e; };";
        due("behind the body's redirections", runs(f + "{ trap f exit; echo a; } >p | cat;", 0, "/e").file("p"), "/a");
        due("into the pipe", runs(f + "{ trap f exit; echo a; exit 3; } | cat >p;", 0, "").file("p"), "/a/e");
        due("inside the subshell's", runs(f + "(trap f exit; echo a;) >p;", 0, "").file("p"), "/a/e");
        due("a job's body", runs(f + "{ trap f exit; echo a; } >p& wait; cat <p;", 0, "/e/a").file("p"), "/a");
        due("a job's subshell", runs(f + "(trap f exit; echo a;) >p& wait; cat <p;", 0, "/a/e").file("p"), "/a/e");
        due("exec inside stays", runs(f + "(exec >p; trap f exit; { exit 3; } >q;); echo $?;", 0, "/3").file("p"), "/e");
        due("the handles of the job's beginning", runs(f + "{ { trap f exit; }& } >p; wait; exec >q; true&", 0, "").file("p"), "/e");
    }

    private static void exitFunctionsThatEnd() {
        runs("def f{ exit 9; }; (trap f exit; exit 3;); echo $?; { trap f exit; exit 4; }& wait 1; echo $?; true | { trap f exit; }; echo $?;", 0,
            "/9/9/9");
        runs("def f{ raise term; }; (trap f exit;); echo $?; { trap f exit; exit 3; }& fg 1; echo $?;", 0, "/143/143");
        runs("def f{ false; }; (trap f exit; exit 3;); echo $?; def f{ false; exit; }; { trap f exit; exit 3; }& wait 1; echo $?;", 0, "/3/1");
        runsWith("l", "def f{ read x; echo $x; }; { trap f exit; exit 3; }& wait 1; echo $?; (trap f exit; exit 3;); echo $?;", 0, "/149/l/3");
        runs("def f{ echo e; echo j& }; (trap f exit; echo k& exit 3;); echo $?;", 0, "/e/k/j/3");
        runs("def f{ echo e; echo j& exit 9; }; { trap f exit; echo k& exit 3; }& wait 1; echo $?;", 0, "/e/k/j/9");
        runs("def f{ wait 1; echo $?; wait 2; echo $?; }; (exit 6& trap f exit; exit 3;); echo $?;", 0, "/6/127/3");
    }

    // ---- the limit inside a job, a pipeline and a trap

    private static void limitInJobs() {
        Driver d = runs("x=1; { y=2; while true; do false; done; }& false; wait 1; x=3;", 1, "");
        due("by wait", ran(d) + d.variable("x") + d.variable("y") + d.core.jobStatus(1), "true begun 300 forks 11null-1");
        Driver e = runs("exec 3>p; { while true; do done; }& echo no& exit 5;", 5, "");
        due("at the end", ran(e) + e.handles() + e.core.jobStatus(1) + e.core.jobStatus(2), "true begun 300 forks 2ttt.......-1-1");
        Driver f = runs("def f{ echo no; }; trap f exit; exit 7& { trap f exit; echo no& while true; do done; }& fg 1; fg 2;", 7, "");
        due("by fg", ran(f) + f.core.jobStatus(1) + f.core.jobStatus(2) + " " + f.core.actionOf(3), "true begun 300 forks 37-1 6");
        Driver g = runs("(true& { { while true; do done; }& }& wait; echo no;); echo no;", 0, "");
        due("a job's job", ran(g) + " " + g.core.jobCount(), "true begun 300 forks 4 0");
    }

    private static void limitInPipelines() {
        Driver d = runs("false; true | while true; do false; done | echo no;", 1, "");
        due("the second of three", ran(d) + d.handles(), "true begun 300 forks 2ttt.......");
        Driver e = runs("set pipefail on; exit 3 | { exec 3>p; while true; do echo a; done; };", 0, repeat("/a", 100));
        due("the last of two", ran(e) + e.handles() + e.file("p"), "true begun 300 forks 2ttt.......");
        Driver f = runs("exec 3>p; while true; do echo a; done | cat;", 0, "");
        due("what is in the pipe is gone", ran(f) + f.handles() + f.core.outputCount(), "true begun 300 forks 1ttt.......0");
        Driver g = new Driver();
        g.load("if read x; then cat; else while true; do echo a; done | cat; fi;");
        due("first run", g.core.run() + ran(g), "1true begun 300 forks 1");
        g.type("l\nm\n");
        due("no line of it comes later", g.core.run() + ran(g) + g.outputs(), "0false begun 3 forks 0/m");
    }

    private static void limitInTraps() {
        Driver d = runs("def f{ while true; do false; done; }; trap f int; trap g exit; raise int; echo no;", 0, "");
        due("raised", ran(d) + " " + d.core.actionOf(1) + " " + d.core.actionOf(3), "true begun 300 forks 0 6 7");
        Driver e = runs("def f{ while true; do done; }; trap f exit; echo no& false;", 0, "");
        due("at the end", ran(e) + " " + e.core.actionOf(3) + e.core.jobStatus(1), "true begun 300 forks 1 0-1");
        Driver f = runs("def f{ while true; do done; }; false; (trap f exit;); echo no;", 1, "");
        due("at the end of a subshell", ran(f), "true begun 300 forks 1");
        Driver g = runs("def f{ while true; do done; }; trap f int; { trap f hup; raise hup; }& false; wait 1;", 1, "");
        due("raised in a job", ran(g) + g.core.jobStatus(1) + " " + g.core.actionOf(0), "true begun 300 forks 1-1 0");
    }

    private static void behindTheLimit() {
        Driver d = new Driver();
        d.load("wait 1; echo $?; true& { while ! read x; do done; } 3>p;");
        due("the first run", d.core.run() + ran(d) + d.outputs(), "0true begun 300 forks 1/127");
        d.type("l");
        due("no jobs are left", d.core.run() + ran(d) + d.outputs() + d.core.jobStatus(1), "0false begun 6 forks 1/127/1270");
        Driver e = new Driver();
        e.load("def f{ g; }; def g{ h; }; def h{ k; }; def k{ while ! read x; do done; echo $x; }; f;");
        due("in four calls", e.core.run() + ran(e), "0true begun 300 forks 0");
        e.type("l");
        due("four calls again", e.core.run() + ran(e) + e.outputs(), "0false begun 11 forks 0/l");
        Driver f = new Driver();
        f.load("def f{ echo e; }; trap f exit; while ! read x; do done;");
        due("no exit function", f.core.run() + ran(f) + f.outputs(), "0true begun 300 forks 0");
        f.type("l");
        due("the exit function", f.core.run() + ran(f) + f.outputs(), "0false begun 5 forks 0/e");
    }

    // ---- undo behind a run that stopped

    private static void undoBehindTheLimit() {
        Driver d = new Driver();
        d.type("k\nl\n");
        d.load("exec 3>>p; x=1; def f{}; trap f int; set pipefail on; echo a >&3; echo b; read y; true& while true; do done;");
        String before = answers(d);
        due("stopped", d.core.run() + ran(d) + d.file("p") + d.outputs() + d.core.inputCount(), "0true begun 300 forks 1/a/b1");
        String stopped = answers(d);
        due("undone", d.core.undo() + answers(d), 0 + before);
        due("stopped again", d.core.run() + answers(d), 0 + stopped);
        due("the second run", d.core.run() + d.file("p") + d.outputs() + d.core.inputCount(), "0/a/a/b/b0");
        due("undone to a run that stopped", d.core.undo() + answers(d), 1 + stopped);
        due("undone", d.core.undo() + answers(d), 0 + before);
    }

    private static void positionsBehindTheLimit() {
        Driver d = new Driver();
        d.load("if read x <&3; then echo $x; while true; do done; else cat >p; exec 3<p 4<&3; fi;");
        d.type("1\n2\n3\n");
        due("opened", d.core.run() + ran(d) + d.handles(), "0false begun 4 forks 0tttrr.....");
        due("one line read", d.core.run() + ran(d) + d.outputs() + d.handles(), "0true begun 300 forks 0/1tttrr.....");
        due("two lines read", d.core.run() + d.outputs(), "0/1/2");
        due("undone", d.core.undo() + d.outputs(), "3/1");
        due("the second again", d.core.run() + d.outputs(), "0/1/2");
        due("undone twice", d.core.undo() + d.core.undo() + d.outputs(), "5");
        due("the first again", d.core.run() + d.outputs(), "0/1");
        Driver e = new Driver();
        e.load("if read x; then exec 3>&- 1>&-; true 5>&4; while true; do echo $x >&4; done; else exec 3>p 4>&3; fi;");
        e.core.run();
        e.type("l");
        due("a full file", e.core.run() + ran(e) + e.core.lineCount(0) + e.handles(), "0true begun 300 forks 040tttww.....");
        due("an empty one", e.core.undo() + " " + e.core.lineCount(0) + e.handles(), "2 0tttww.....");
        due("full again", e.core.run() + " " + e.core.lineCount(0) + e.handles(), "0 40tttww.....");
    }

    // ---- load behind an error

    private static void loadBehindAnError() {
        Driver d = new Driver();
        d.load("f; def f{ echo a; }; trap f int; x=1; exec 3>p;");
        d.core.run();
        String[] wrong = {"echo b; (", "{{{{{{", "def f{ echo c; }; f; abcdefghijklm", repeat("{f;};", 99) + "}", "\0"};
        String[] errors = {"1 9", "2 5", "3 21", "1 495", "1 0"};
        for (int i = 0; i < wrong.length; i++) {
            String before = answers(d).replaceAll(" error .*", "");
            due("refused", d.load(wrong[i]) + answers(d), -1 + before + " error " + errors[i]);
            due("the old script", d.core.run() + d.outputs(), 0 + repeat("/a", i + 1));
            due("the error stays", d.core.errorKind() + " " + d.core.errorOffset(), errors[i]);
        }
        due("undone", d.core.undo() + d.outputs() + d.core.errorKind(), 5 + repeat("/a", 4) + 1);
        due("the buffer is empty", d.core.type() + " " + d.core.inputCount() + " " + d.core.truncate(1) + " " + d.core.append(0, 0, 0, 0, 0),
            "0 0 false 20");
        due("loaded", d.load("f; def f{ echo d; }; f;") + " " + d.core.errorKind() + " " + d.core.errorOffset() + " " + d.core.undoDepth(), "3 0 -1 0");
        due("begun anew", d.core.functionCount() + d.core.variableCount() + " " + d.core.actionOf(1) + d.handles(), "0 0ttt.......");
        due("the new script", d.core.run() + d.trace() + d.outputs(), "0 0:127:0 10:0:0 21:0:0" + repeat("/a", 4) + "/d");
        due("an error again", d.load("f") + " " + d.core.errorKind() + " " + d.core.errorOffset() + " " + d.core.undoDepth(), "-1 1 1 1");
        due("undone behind an error", d.core.undo() + d.trace() + d.core.isDefined(6) + " " + d.core.errorOffset(), "0false 1");
    }

    private static void loadBehindTheLimit() {
        Driver d = new Driver();
        d.load("exec 3>p; def f{ true; }; while true; do f; done;");
        due("stopped", d.core.run() + ran(d), "0true begun 300 forks 0");
        due("an error behind it", d.load("while") + ran(d), "-1true begun 300 forks 0");
        due("the text behind that", d.load("f;") + ran(d) + d.core.isDefined(6) + d.core.run() + ran(d),
            "1false begun 0 forks 0false127false begun 1 forks 0");
    }

    public static void main(String[] args) {
        failingRedirectionsInPipelines();
        endsInFunctions();
        endsInConditions();
        endsInPipelines();
        duplicatedForWriting();
        duplicatedForReading();
        exitFunctions();
        exitFunctionsAndHandles();
        exitFunctionsThatEnd();
        limitInJobs();
        limitInPipelines();
        limitInTraps();
        behindTheLimit();
        undoBehindTheLimit();
        positionsBehindTheLimit();
        loadBehindAnError();
        loadBehindTheLimit();
        end();
    }
}
