/** The boundaries of shells, commands, jobs and the limit, each on both sides: the last case allowed, the first refused. */
public final class ShellEdgeTest extends Checks {
    private static final String FOUR = "def f{g;};def g{h;};def h{k;};";

    // ---- what a shell has

    private static String assignments(int count) {
        StringBuilder script = new StringBuilder();
        for (int i = 0; i < count; i++) {
            script.append("v").append(i).append("=a;");
        }
        return script.toString();
    }

    private static void twentyVariables() {
        due("the 20th by an assignment", runs(assignments(19) + "w=b;", 0, "").core.variableCount(), 20);
        due("the 20th by read", runsWith("l\n", assignments(19) + "read w;", 0, "").variable("w"), "l");
        due("the 20th by read at the end", runs(assignments(19) + "read w;", 1, "").variable("w"), "");
        Driver d = runsWith("l\nm\nn\n", assignments(20) + "w=b; echo $? $w; read w; echo $? $w; read v0; echo $? $v0; v19=c; echo $? $v19;", 0,
            "/1 /1 /0 m/0 c");
        due("no 21st", d.core.variableCount() + " " + d.core.isSet(23) + d.variable("w") + " " + d.core.inputCount(), "20 falsenull 1");
        Driver e = runs(assignments(20) + "read w; echo $?; read v3; echo $? $v3;", 0, "/1/1 ");
        due("no 21st at the end", e.core.variableCount() + " " + e.variable("w") + e.variable("v3"), "20 null");
        runs(assignments(19) + "(w=b; echo $? $w; x=c; echo $? $x;); w=$w; echo $?; x=d; echo $?;", 0, "/0 b/1 /0/1");
        due("by read that fails", runs(assignments(19) + "read w <&-; read x <q;", 1, "").core.variableCount(), 19);
        Driver f = runsWith("l\nm\n", assignments(20) + "trap a b c; w=b; read w;", 1, "");
        due("load makes place", f.load("w=b; read x; false;") + " " + f.core.run() + f.variable("w") + f.variable("x"), "3 1bm");
    }

    private static void tenFunctions() {
        StringBuilder nine = new StringBuilder();
        for (int i = 0; i < 9; i++) {
            nine.append("def ").append(i).append("{echo ").append(i).append(";};");
        }
        due("the 10th", runs(nine + "def a{echo a;}; a; 0; 8;", 0, "/a/0/8").core.functionCount(), 10);
        Driver d = runs(nine + "def a{echo a;}; def b{echo b;}; echo $?; b; echo $?; def 0{echo c;}; echo $?; 0; a;", 0, "/1/127/0/c/a");
        due("no 11th", d.core.functionCount() + " " + d.core.isDefined(2) + " " + d.core.isDefined(1), "10 false true");
        runs(nine + "(def a{}; echo $?; def b{}; echo $?;); def b{}; echo $?; def c{}; echo $?;", 0, "/0/1/0/1");
        due("a definition that fails to redirect", runs("def a{} <q;", 1, "").core.functionCount(), 0);
        due("a definition has no effect until it is executed", runs("def a{ def b{}; };", 0, "").core.functionCount(), 1);
    }

    private static void actions() {
        ShellCore x = runs("trap f hup; trap ignore int; trap default term; trap g exit; (exit 1;); trap g exit;", 0, "").core;
        due("actions", x.actionOf(0) + " " + x.actionOf(1) + " " + x.actionOf(2) + " " + x.actionOf(3), "6 -2 0 0");
        ShellCore y = runs("trap ignore exit; trap if hup; trap echo int; trap 0 term;", 0, "").core;
        due("any name", y.actionOf(0) + " " + y.actionOf(1) + " " + y.actionOf(2) + " " + y.actionOf(3),
            Driver.name("if") + " " + Driver.name("echo") + " 27 -2");
        runs("x=ignore; y=int; trap $x $y; raise $y; echo a; x=default; trap $x $y; (raise $y;); echo $?;", 0, "/a/130");
    }

    // ---- kinds and numbers of arguments

    private static void wrongArguments() {
        String[] two = {"read", "read a b", "read $u", "read $u a", "cat a", "cat $u", "cat a b", "exec a", "exec $u", "exec a b", "exit a",
            "exit 1 2", "exit 1 a", "exit $u", "exit 123456", "exit 000000", "exit 1a", "exit a1", "trap", "trap k", "trap k int k", "trap k no",
            "trap $u int", "trap k $u", "trap k 2", "trap int k", "trap k default", "raise", "raise exit", "raise no", "raise int int", "raise $u",
            "raise 2", "raise default", "set", "set pipefail", "set on", "set on pipefail", "set pipefail on on", "set pipefail no", "set pipe on",
            "set $u on", "set pipefail $u", "set pipefail 1", "wait a", "wait $u", "wait 1 1", "wait 123456", "wait 000001", "wait 1a", "fg",
            "fg a", "fg $u", "fg 1 1", "fg 123456", "fg 000001"};
        for (String command : two) {
            Driver d = runsWith("l\nm\n", "echo no & x=1; trap q int; set pipefail off; " + command + "; false | true; echo $? $x; trap default int;"
                + command + "; y=$?; exit 9;", 9, "/0 1/no");
            due("no effect: " + command, d.core.inputCount() + " " + d.core.variableCount() + d.variable("y") + " " + d.core.isPipefail()
                + d.core.actionOf(0) + d.core.actionOf(1) + d.core.actionOf(2) + d.core.actionOf(3) + d.handles() + d.core.jobStatus(1),
                "2 22 false0000ttt.......0");
            due("status: " + command, d.core.traceField(3, 1) + " " + d.core.traceCount(), "2 11");
            due("status 1 if a redirection fails: " + command, runs(command + " <p;", 1, "").core.traceCount(), 1);
        }
    }

    private static void rightArguments() {
        String[] zero = {"true", "true a b c", "true $u", "echo", "echo a b", "echo $u $u", "cat", "exec", "trap k int", "trap ignore exit",
            "trap default hup", "trap k term", "set pipefail on", "set pipefail off", "wait", "read x", "read 9", "read x 3>p"};
        for (String command : zero) {
            due("status 0: " + command, runsWith("l\n", command + ";", 0, command.startsWith("ec") ? "/" + (command.endsWith("b") ? "a b"
                : command.endsWith("u") ? " " : "") : command.equals("cat") ? "/l" : "").core.traceField(0, 1), 0);
        }
        runs("false; echo $?; false a b; echo $?; false $u;", 1, "/1/1");
        runs("echo $u; echo $u $u $u; echo a $u; echo $u a; x=a; echo $x$x $x; echo a$x b$?;", 0, "// " + " /a / a/a a a/a a b 0");
    }

    private static void numbers() {
        int[] statuses = {0, 1, 9, 10, 99, 100, 109, 110, 127, 200, 255, 256, 257, 511, 512, 1000, 9999, 10000, 65535, 65536, 99999};
        for (int number : statuses) {
            runs("exit " + number + ";", number % 256, "");
            runs("(exit " + number + ";); echo $?; x=$?; exit " + number + ";", number % 256, "/" + number % 256);
        }
        for (int number = 0; number < 256; number++) {
            runs("(exit " + number + ";); echo $?;", 0, "/" + number);
        }
        runs("exit 00000;", 0, "");
        runs("exit 00009;", 9, "");
        runs("exit 00256;", 0, "");
        runs("exit 000009;", 2, "");
        runs("exit 100000;", 2, "");
        runsWith("00007\n", "read x; exit $x;", 7, "");
        runsWith("000007\n", "read x; exit $x;", 2, "");
        runsWith("1 2\n-1\n+1\n 1\n1.\n/\n:\n", "while read x; do (exit $x;); echo $?; done;", 0, repeat("/2", 7));
        runs("(exit 7;); (exit;); echo $?; (exit 7;); exit $?;", 7, "/7");
        runs("(exit 255;); exit;", 255, "");
    }

    // ---- jobs

    private static void eightJobs() {
        Driver d = runs(repeat("true&", 7) + "exit 8& echo $?; exit 9& echo $?; wait 8; echo $?; exit 9& echo $?; wait; exit 9& echo $?;"
            + "wait 9; echo $?; fg 9; echo $?; wait 8;", 127, "/0/1/8/1/1/127/127");
        due("8 jobs", d.core.jobCount() + " " + d.core.forks() + " " + d.core.jobStatus(8) + " " + d.core.jobStatus(9), "8 8 8 -1");
        due("a job that is not made begins nothing", d.core.begun(), 20);
        due("the next run has jobs again", d.core.run() + " " + d.core.jobCount() + " " + d.core.forks(), "127 8 8");
        runs("(" + repeat("true&", 8) + "echo $?; true& echo $?;); true& echo $?; wait 1; echo $?;", 0, "/0/1/0/0");
        runs(repeat("true&", 8) + "(true& echo $?; wait 1; echo $?; wait 2; echo $?;); true& echo $?;", 0, "/0/0/127/1");
        due("a ninth in a subshell", runs("(" + repeat("true&", 9) + ");", 1, "").core.forks(), 9);
    }

    private static void numbersOfJobs() {
        String[] none = {"0", "3", "8", "9", "00000", "99999", "00003"};
        for (String number : none) {
            runs("exit 5& exit 6& wait " + number + "; echo $?; fg " + number + "; echo $?; wait 1; echo $?;", 0, "/127/127/5");
            runs("wait " + number + ";", 127, "");
            runs("fg " + number + ";", 127, "");
        }
        runs("exit 5& exit 6& wait 00002; echo $?; x=1; fg $x; echo $?; wait 1; echo $?; fg 2; echo $?; wait; echo $?;", 0, "/6/5/127/127/0");
        runs("false; wait; echo $?; exit 3& false; wait; echo $?; (exit 4;); wait; echo $?;", 0, "/0/0/0");
        Driver d = runs("exit 5& exit 6& exit 7& fg 2; trap f exit; false;", 1, "");
        due("statuses", d.core.jobStatus(1) + " " + d.core.jobStatus(2) + " " + d.core.jobStatus(3), "5 6 7");
        for (int job : new int[] {0, 4, 8, 9, -1, Integer.MAX_VALUE, Integer.MIN_VALUE}) {
            stays("job " + job, d, -1, () -> d.core.jobStatus(job));
        }
        due("no jobs in a run without", d.loadAndRun("true;") + " " + d.core.jobCount() + " " + d.core.jobStatus(1), "0 0 -1");
        Driver e = runs("exit 5& while true; do done;", 0, "");
        due("a job that was not run", e.core.isStopped() + " " + e.core.jobCount() + " " + e.core.jobStatus(1), "true 1 -1");
        Driver f = runs("exit 5& wait 1; exit 6& while true; do done;", 0, "");
        due("one that was and one that was not", f.core.jobStatus(1) + " " + f.core.jobStatus(2), "5 -1");
        due("a run without jobs behind one with", f.loadAndRun("(exit 5&);") + " " + f.core.jobCount() + f.core.jobStatus(1), "0 0-1");
    }

    private static void background() {
        runsWith("l\n", "(read x; echo $? $x;)& fg 1;", 0, "/0 l");
        runsWith("l\n", "(read x; echo $? $x;)& wait 1;", 149, "");
        runsWith("l\n", "((read x; echo $x;); echo $?;)& wait 1;", 0, "/149");
        runsWith("l\n", "(read x| true; echo $?; true | read x <&2; echo $?;)& wait 1;", 0, "/0/149");
        runsWith("l\n", "(read x& fg 1; echo $?;)& fg 1;", 0, "/0");
        runsWith("l\n", "(read x& wait 1; echo $?;)& fg 1;", 0, "/149");
        runsWith("l\n", "(read x& fg 1; echo $?;)& wait 1;", 0, "/149");
        runsWith("l\n", "def f{ read x; echo no; }; (trap f exit;)& wait 1;", 149, "");
        runsWith("l\n", "def f{ echo $?; }; (trap f exit; cat; echo no;)& wait 1;", 149, "/149");
        due("no line is taken", runsWith("l\n", "read x& cat& (read x <&2;)& wait;", 0, "").core.inputCount(), 1);
        runs("read x& wait 1;", 149, "");
        runs("cat& fg 1; echo $?; cat&", 0, "/0");
        runs("echo k | cat& echo k >p; cat <p& read x <&-& wait; echo $?;", 0, "/k/k/0");
        due("a job at the end of a shell is in the background", runsWith("l\n", "read x&", 0, "").core.jobStatus(1), 149);
        due("the main shell is not", runsWith("l\n", "read x& wait; read x; echo $x;", 0, "/l").core.inputCount(), 0);
        due("a record of what ended", runsWith("l\n", "{ read x; }& wait;", 0, "").trace(), " 13:0:0");
    }

    // ---- calls

    private static void callsOfFunctions() {
        runs(FOUR + "def k{ echo a; }; f; echo $?;", 0, "/a/0");
        runs(FOUR + "def k{ z; echo $?; }; def z{ echo no; }; f; echo $?;", 0, "/126/0");
        runs(FOUR + "def k{ z; }; def z{ echo a; }; f; echo $?; g;", 0, "/126/a");
        runs(FOUR + "def k{ nosuch; echo $?; true; }; f;", 0, "/127");
        runs(FOUR + "def k{ f; f; g; echo a; }; f; f; k;", 0, "/a/a/a/a");
        runs("def f{ echo a; f; }; f; echo $?; (f;); f | f;", 126, "/a/a/a/a/126/a/a/a/a/a/a/a/a");
        runs(FOUR + "def k{ exit 3; }; (f;); echo $?; def k{ echo a; }; f;", 0, "/3/a");
        runs(FOUR + "def k{ (z; echo $?; exit 1;); z; echo $?; }; def z{ }; f;", 0, "/126/126");
        runs(FOUR + "def k{ z | true; z& wait 1; echo $?; }; def z{ echo no; }; f; def h{ z& wait 2; echo $?; z& }; def z{ echo a; }; f;", 0,
            "/126/a/0/a");
        runs(FOUR + "def k{ z& }; def z{ echo no; }; f; wait 1; echo $?; z& wait 2;", 0, "/126/no");
    }

    private static void callsByRaise() {
        runs(FOUR + "def k{ echo $?; false; }; trap k int; def h{ false; raise int; echo $?; }; f; echo $?;", 0, "/1/0/0");
        runs(FOUR + "def k{ false; raise int; echo $?; }; def z{ echo no; }; trap z int; f; def z{ echo a; }; g;", 0, "/0/a/0");
        runs("def z{ echo a; }; trap z int; false; raise int; echo $?; trap none int; false; raise int; echo $?; trap ignore int; false; raise int;"
            + "echo $?;", 0, "/a/0/0/0");
        runs("def z{ raise int; }; trap z int; raise int; echo $?; trap z hup; raise hup; trap z term; raise term; raise term; echo $?;", 0, "/0/0");
        runs("def z{ exit 4; }; trap z int; (trap z int; raise int; echo no;); echo $?; raise int; echo no;", 4, "/4");
        runs("trap ignore int; (raise int; trap default int; raise int; echo no;); echo $?; trap k hup; (raise hup; echo no;); echo $?;", 0,
            "/130/129");
        String script = "def z{ true; }; trap z int; raise int; raise hup; a;";
        due("a raise that ends is not recorded", runs(script, 129, "").trace(), " " + script.indexOf("trap") + ":0:0 " + script.indexOf("true")
            + ":0:0 " + script.indexOf("raise int") + ":0:0");
    }

    private static void callsAtTheEnd() {
        runs(FOUR + "def k{ (trap z exit;); echo $?; }; def z{ echo no; }; f; def h{ (trap z exit; exit 5;); echo $?; }; def z{ echo a; false; }; f;",
            0, "/0/a/5");
        runs(FOUR + "def k{ trap z exit; exit 5; }; def z{ f; }; def h{ k; }; def z{ echo a; g; }; f; echo no;", 5, "/a");
        runs("def z{ g; }; def g{ h; }; def h{ i; }; def i{ z; echo $?; }; trap z exit; exit 6;", 6, "/126");
        runs("def z{ exit; }; trap z exit; exit 6;", 6, "");
        runs("def z{ exit 7; echo no; }; trap z exit; exit 6;", 7, "");
        runs("def z{ raise int; echo no; }; trap z exit; exit 6;", 130, "");
        runs("def z{ false; }; trap z exit; exit 6;", 6, "");
        runs("def z{ echo $?; true; }; trap z exit; false;", 1, "/1");
        runs("trap none exit; exit 6;", 6, "");
        runs("trap ignore exit; exit 6;", 6, "");
        due("the action becomes default", runs("trap none exit; exit 6;", 6, "").core.actionOf(3), 0);
        due("ignore stays", runs("trap ignore exit; exit 6;", 6, "").core.actionOf(3), -2);
        due("one set at the end is for the next run", runs("def z{ trap z exit; }; trap z exit;", 0, "").core.actionOf(3), 26);
        runs("def z{ echo e; }; trap ignore exit; (trap z exit;); (exit 3;); echo $?;", 0, "/e/3");
        runs("def z{ echo a; wait; echo b; }; echo j& trap z exit; exit 3;", 3, "/a/j/b");
        runs("def z{ exit 4& wait 1; echo $?; }; trap z exit; exit 3;", 3, "/4");
        runs("def z{ echo e; exit 5& }; trap z exit; echo j& exit 3;", 3, "/e/j");
        runs("def z{ echo $1; }; 1=a; trap z exit; { exit 3; } >p 1>&-;", 3, "/a");
        due("handles that exec opens at the end stay", runs("def z{ exec 3>p; }; trap z exit; { exit 3; } 4>q;", 3, "").handles(), "tttw......");
        due("jobs that the end makes count", runs("def z{ a& b& }; trap z exit; c&", 0, "").core.jobCount(), 3);
    }

    // ---- statuses

    private static void statusesOfPipelines() {
        for (String first : new String[] {"true", "exit 3"}) {
            for (String last : new String[] {"true", "exit 5"}) {
                int end = last.equals("true") ? 0 : 5;
                int right = end != 0 ? end : first.equals("true") ? 0 : 3;
                runs(first + " | " + last + ";", end, "");
                runs(first + " | true | " + last + ";", end, "");
                runs("set pipefail on; " + first + " | true | " + last + ";", right, "");
                runs("set pipefail on; ! " + first + " | " + last + ";", right == 0 ? 1 : 0, "");
                runs("set pipefail on; exit 9 | " + first + " | true | " + last + ";", right == 0 ? 9 : right, "");
                runs("set pipefail on; set pipefail off; ! " + first + " | " + last + ";", end == 0 ? 1 : 0, "");
            }
        }
        runs("set pipefail on; exit 3 | set pipefail off; echo $?; (set pipefail off; exit 3 | true; echo $?;); exit 3 | true; echo $?;", 0,
            "/3/0/3");
        runs("set pipefail on | true; exit 3 | true; echo $?; set pipefail on; (exit 3;); echo $?; ! (exit 3;); echo $?; ! true;", 1, "/0/3/0");
    }

    private static void statusesOfBodies() {
        runs("false; {}; echo $?; false; (); echo $?; def f{}; false; f; echo $?; false; if true; then fi; echo $?;", 0, "/0/0/0/0");
        runs("if false; then fi; echo $?; if false; then else false; fi; echo $?; if true; then false; else fi; echo $?;", 0, "/0/1/1");
        runs("while false; do done; echo $?; false; while false; do false; done; echo $?;", 0, "/0/0");
        runsWith("a\nb\n", "while read x; do (exit 7;); done; echo $?; while read x; do done; echo $?;", 0, "/7/0");
        runsWith("a\nb\n", "while read x; do done; echo $?;", 0, "/0");
        runs("false || false || (exit 4;); echo $?; true && true && (exit 5;); echo $?; false && a || b; echo $?; true || a && false; echo $?;", 0,
            "/4/5/127/1");
        runs("def f{ exit 3& }; f; echo $?; { false& }; echo $?; false; (true&); echo $?;", 0, "/0/0/0");
        runs("! { false; }; echo $?; ! exit 3; echo no;", 3, "/0");
        runs("if (exit 3;); then echo no; else echo $?; fi; if true; then echo $?; fi; while (exit 3;); do done; echo $?;", 0, "/3/0/0");
    }

    /** What is left behind a body goes on, however the body ended. */
    private static void bodiesInBodies() {
        runs("def f{ while false; do done; }; f; echo $?; f; echo a;", 0, "/0/a");
        runsWith("a\nb\nc", "while read x; do while ! echo $x; do done; if a; then b; else while false; do done; (exit 4;); fi; done; echo $?;", 0,
            "/a/b/c/4");
        runsWith("a\nb", "while read x; do echo $x; while false; do done; done | cat; { while read y; do done; } | cat; echo $?;", 0, "/a/b/0");
    }

    /** A shell that ends in the midst of bodies leaves those of itself, and no others. */
    private static void endsInBodies() {
        runs("def f{ while true; do exit 3; done; }; { (f;); echo $?; } >p; echo a; cat <p;", 0, "/a/3");
        runs("def f{ { while true; do if { exit 3; } 4>q; then fi; done; } 1>&-; }; { (f; echo no;); echo $?; } >p; echo a; cat <p;", 0, "/a/3");
        runs("def f{ { exit 3; } >q; }; { while ! (f;); do echo $?; { f | { f; }; } 2>r; exit 4; done; } >p; echo no;", 4, "");
        due("set back", runs("def f{ { exit 3; } >q; }; { while ! (f;); do { f | { f; }; } 2>r; exit 4; done; } >p;", 4, "").handles(), "ttt.......");
        runs("def f{ { { raise int; } >q; } >r; }; trap f hup; { { raise hup; echo no; } & wait 1; echo $?; } >p; echo a; cat <p;", 0, "/a/129");
        runs("def f{ { { exit 3; } >q; } >r; }; { { trap f hup; raise hup; } & wait 1; echo $?; } >p; echo a; cat <p;", 0, "/a/3");
        runs("def f{ { { exit 3; } >q; } >r; }; { (trap f exit; { { exit 4; } >q; } 3>r;); echo $?; } >p; echo a; cat <p;", 0, "/a/3");
    }

    // ---- subshells

    private static void copies() {
        Driver d = runs("x=1; def f{ echo a; }; trap f int; trap ignore term; set pipefail on;"
            + "(x=2; y=3; def f{ echo b; }; def g{}; trap ignore hup; trap default term; set pipefail off; exec 3>p 0<&-; f; exit 3;); f; echo $? $x $y;",
            0, "/b/a/0 1 ");
        due("nothing of it stays", d.core.variableCount() + " " + d.core.functionCount() + " " + d.core.isPipefail() + d.core.actionOf(0) + " "
            + d.core.actionOf(2) + d.handles(), "1 1 true0 -2ttt.......");
        runs("trap k hup; trap k int; trap k term; (raise hup;); echo $?; (raise int;); echo $?; (raise term;); echo $?; raise hup;", 0,
            "/129/130/143");
        runs("trap ignore hup; (((raise hup; echo a;););); (trap default hup; (raise hup;); echo $?;);", 0, "/a/129");
        due("depths", runs("(a; (b; (c;););); a| b; (true&);", 0, "").trace(), " 1:127:1 5:127:2 9:127:3 18:127:1 21:127:1 25:0:2");
        runs("(exit 3;); (echo $?;); true | echo $?; (exit 4;); echo $? & wait;", 0, "/3/0/4");
    }

    public static void main(String[] args) {
        twentyVariables();
        tenFunctions();
        actions();
        wrongArguments();
        rightArguments();
        numbers();
        eightJobs();
        numbersOfJobs();
        background();
        callsOfFunctions();
        callsByRaise();
        callsAtTheEnd();
        statusesOfPipelines();
        statusesOfBodies();
        bodiesInBodies();
        endsInBodies();
        copies();
        end();
    }
}
