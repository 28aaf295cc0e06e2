/** At least one test for each promise of the document: ordinary inputs, the edges that it names, wrong inputs. */
public final class PromiseTest extends Checks {
    // ---- promises 1 to 7

    private static void newObject() {
        Driver d = new Driver();
        ShellCore x = d.core;
        due("1 status", x.status(), 0);
        due("1 stopped", x.isStopped(), false);
        due("1 counts", x.begun() + " " + x.forks() + " " + x.jobCount() + " " + x.jobStatus(1), "0 0 0 -1");
        due("1 undo", x.undoDepth() + " " + x.undo(), "0 -1");
        due("1 handles", d.handles(), "ttt.......");
        due("1 tables", x.variableCount() + " " + x.functionCount() + " " + x.isPipefail(), "0 0 false");
        due("1 actions", x.actionOf(0) + " " + x.actionOf(1) + " " + x.actionOf(2) + " " + x.actionOf(3), "0 0 0 0");
        due("1 world", x.fileCount() + " " + x.outputCount() + " " + x.inputCount() + " " + x.traceCount(), "0 0 0 0");
        due("1 error", x.errorKind() + " " + x.errorOffset(), "0 -1");
        due("1 text", new ShellCore().formattedByte(0), -1);
        due("1 buffer", x.truncate(1), false);
        due("1 run of the empty script", x.run() + " " + x.begun() + " " + x.status(), "0 0 0");
    }

    private static void appending() {
        ShellCore x = new ShellCore();
        due("2 length", x.append(0x6563686f, 0x20010203, 0x80ff0000, 0, 0), 20);
        x.truncate(4);
        due("2 behind the rest", x.append(0x20616263, 0x3b000000, 0, 0, 0), 24);
        x.truncate(9);
        due("2 bytes in their order", x.load(), 1);
        due("2 run", x.run(), 0);
        due("2 output", x.formatOutput(0) + " " + x.formattedByte(0) + " " + x.formattedByte(2), "3 97 99");
        for (int i = 1; i <= 35; i++) {
            due("2 append", x.append(0, 0, 0, 0, 0), 20 * i);
        }
        due("2 full", x.append(0, 0, 0, 0, 0), -1);
        due("2 nothing appended", x.truncate(700), true);
        due("2 one byte too many", x.truncate(681) + " " + x.append(0, 0, 0, 0, 0) + " " + x.truncate(682), "true -1 false");
        due("2 just enough", x.truncate(680) + " " + x.append(0, 0, 0, 0, 0), "true 700");
    }

    private static void truncating() {
        ShellCore x = new ShellCore();
        due("3 empty", x.truncate(0) + " " + x.truncate(1) + " " + x.truncate(-1), "true false false");
        x.append(0x61, 0, 0, 0, 0);
        due("3 negative", x.truncate(-1), false);
        due("3 longer", x.truncate(21), false);
        due("3 same", x.truncate(20), true);
        due("3 shorter", x.truncate(5), true);
        due("3 not longer again", x.truncate(6), false);
        due("3 least", x.truncate(Integer.MIN_VALUE) + " " + x.truncate(Integer.MAX_VALUE), "false false");
    }

    private static void loading() {
        accepts("", 0);
        accepts(" \t\n", 0);
        accepts("a;b&c;", 3);
        accepts("a && b || c;{ d; e; };", 2);
        Driver d = new Driver();
        d.type("in\n");
        d.loadAndRun("x = 1; def f { }; trap f int; trap f exit; set pipefail on; exec 3>p 1>&-; false;");
        d.core.run();
        due("4 before", d.handles() + d.core.variableCount() + d.core.functionCount() + d.core.isPipefail() + d.core.undoDepth(),
            "t.tw......11true2");
        due("4 refused", d.load("echo ("), -1);
        due("4 stays", d.handles() + d.core.variableCount() + d.core.functionCount() + d.core.isPipefail() + d.core.undoDepth()
            + d.core.begun() + d.core.traceCount() + d.core.status() + d.core.actionOf(1), "t.tw......11true27616");
        due("4 buffer empty", d.core.truncate(1), false);
        due("4 the old script", d.core.run() + " " + d.core.begun(), "1 7");
        due("4 loaded", d.load("echo a | echo b &"), 1);
        due("4 no error", d.core.errorKind() + " " + d.core.errorOffset(), "0 -1");
        due("4 buffer empty", d.core.truncate(1), false);
        due("4 anew", d.handles() + d.core.variableCount() + d.core.functionCount() + d.core.isPipefail() + d.core.undoDepth()
            + d.core.begun() + d.core.forks() + d.core.traceCount() + d.core.status() + d.core.actionOf(1) + d.core.actionOf(3)
            + d.core.isStopped() + d.core.jobCount(), "ttt.......00false0000000false0");
        due("4 files and terminal stay", d.core.fileCount() + " " + d.core.inputCount(), "1 1");
        d.fill("(");
        throwing("4 throws", ARGUMENT, () -> d.core.load());
        Driver e = new Driver();
        e.loadAndRun("echo a b >q; false <q >q;");
        e.load("echo (");
        due("4 the next script", e.load("echo c; false;") + " " + e.core.run() + e.outputs(), "2 1/c");
        due("4 the third script", e.load("x=z; echo d e;") + " " + e.core.run() + e.outputs(), "2 0/c/d e");
        e.load("echo $x; x=$?;");
        due("4 lines of earlier runs", e.core.run() + e.outputs() + e.core.run() + e.core.run() + e.outputs(), "0/c/d e/00/c/d e//0/0");
    }

    private static void errors() {
        refuses("echo a", 1, 6);
        refuses("echo a ", 1, 7);
        refuses("echo a; }", 1, 8);
        refuses("{ echo a }", 1, 9);
        refuses("(true)", 1, 5);
        refuses("(true;)", 1, 7);
        refuses("a | ;", 1, 4);
        refuses("a ||| b;", 1, 4);
        refuses("a & & b;", 1, 4);
        refuses("! ! a;", 1, 2);
        refuses("a | ! b;", 1, 4);
        refuses("a >;", 1, 3);
        refuses("a >>> f;", 1, 4);
        refuses("a >&f;", 1, 4);
        refuses("a >&12;", 1, 4);
        refuses("a <& &;", 1, 5);
        refuses("a >f b;", 1, 5);
        refuses("(a;) 3 >f;", 1, 5);
        refuses("(a;) 3", 1, 5);
        refuses("x=;", 1, 2);
        refuses("x=a b;", 1, 4);
        refuses("a $;", 1, 3);
        refuses("a $$;", 1, 3);
        refuses("a=b=c;", 1, 3);
        refuses("a -;", 1, 2);
        refuses("then;", 1, 0);
        refuses("a; fi;", 1, 3);
        refuses("if then a; fi;", 1, 3);
        refuses("if a & then fi;", 1, 5);
        refuses("if a; the", 1, 6);
        refuses("if a; then b; done;", 1, 14);
        refuses("while a; do b; fi;", 1, 15);
        refuses("while a; do", 1, 11);
        refuses("def if { };", 1, 4);
        refuses("def echo { };", 1, 4);
        refuses("def fg { };", 1, 4);
        refuses("def f ( );", 1, 6);
        refuses("def { };", 1, 4);
        refuses("done = a;", 1, 0);
        refuses("if = a;", 1, 3);
        refuses("a A;", 1, 2);
        refuses("a abC;", 1, 4);
        refuses("a \u00e9;", 1, 2);
        refuses("a \r;", 1, 2);
        refuses("a \0;", 1, 2);
        refuses("a.;", 1, 1);
        refuses("a;\0", 1, 2);
        refuses("a;\u00ff", 1, 2);
        tooLongAndTooDeep();
        texts();
    }

    private static void tooLongAndTooDeep() {
        refuses("abcdefghijklm;", 3, 0);
        refuses("a abcdefghijklm", 3, 2);
        refuses("a $1234567890123;", 3, 3);
        refuses("a >abcdefghijklm;", 3, 3);
        refuses("a >&1234567890123;", 3, 4);
        refuses("(a;) abcdefghijklm;", 3, 5);
        refuses("a; } abcdefghijklm;", 1, 3);
        refuses("def abcdefghijklm { };", 3, 4);
        accepts("abcdefghijkl 123456789012 $abcdefghijkl >abcdefghijkl;", 1);
        accepts("{{{{{a;};};};};};", 1);
        refuses("{{{{{{a;};};};};};};", 2, 5);
        refuses("{{{{{(", 2, 5);
        refuses("{{{{{if", 2, 5);
        refuses("{{{{{ while", 2, 6);
        refuses("{{{{{ a; def", 2, 9);
        refuses("{{{{{ ! (", 2, 8);
        refuses("{{{{{ then", 1, 6);
        refuses("{{{{{ a (", 1, 8);
        refuses("if if if if if {", 2, 15);
        refuses("def f { def g { (( { (", 2, 21);
        accepts("def f { def g { (({a;};);); }; };", 1);
        accepts("{(if a; then while a; do def f { a; }; done; fi;);};", 1);
    }

    private static void texts() {
        accepts("if a;then b;else c;fi;while a;do b;done;def f{a;};", 3);
        accepts("\n a\t=\n$ \n?\t;", 1);
        accepts("a$x$?b;", 1);
        accepts("echo if then def $fi >done <while;", 1);
        accepts("echo = a; echo=a;", 2);
        accepts("3 = a; 3>f; 3<f; 3;", 4);
        refuses("a 3>f 4 >f;", 1, 6);
        accepts("a 4 3>f 5<&6 7>&- <&1 >& -;", 1);
        accepts("{}3>f;()<f;if a;then fi>>f;x=3>f;x=y 3>f;", 5);
        accepts("a>f>f>f&b&&c||!d|e&", 2);
        accepts(repeat("a;", 350), 350);
        accepts(repeat("a&", 350), 350);
        accepts("a" + repeat("|a", 349) + ";", 1);
        accepts("a" + repeat("<a", 349) + ";", 1);
        accepts("a" + repeat("$?", 349) + ";", 1);
    }

    private static void typing() {
        Driver d = new Driver();
        due("7 nothing", d.type(""), 0);
        due("7 an action", d.core.undoDepth(), 1);
        due("7 lines", d.type("a\n\nbc"), 3);
        due("7 line feed at the end", d.type("d\n"), 4);
        due("7 only line feeds", d.type("\n\n"), 6);
        due("7 buffer empty", d.core.truncate(1), false);
        due("7 long", d.type(repeat("0123456789", 9) + "\n\u00ff"), 8);
        d.loadAndRun("cat;");
        due("7 read", d.outputs(), "/a//bc/d///" + repeat("0123456789", 8) + "/\u00ff");
        due("7 full", d.type(repeat("x\n", 40)), 40);
        due("7 depth", d.core.undoDepth(), 2);
        d.fill("y");
        throwing("7 too many", "IllegalStateException", () -> d.core.type());
        due("7 nothing appended", d.core.inputCount() + " " + d.core.undoDepth(), "40 2");
        due("7 buffer empty", d.core.truncate(1), false);
        due("7 none more", d.type(""), 40);
        due("7 too many at once", new Driver().type(repeat("\n", 41)), -1);
        due("7 most at once", new Driver().type(repeat("\n", 40)), 40);
        due("7 too many with one that has no line feed", new Driver().type(repeat("x\n", 40) + "y"), -1);
        due("7 most with one that has no line feed", new Driver().type(repeat("\n", 39) + "y"), 40);
    }

    // ---- promise 8: running

    private static void redirections() {
        runs("cat <p;", 1, "");
        due("8 >", runs("echo a >p; echo b >p;", 0, "").file("p"), "/b");
        due("8 >>", runs("echo a >>p; echo b >>p;", 0, "").file("p"), "/a/b");
        due("8 shared position", runs("exec 3>p 4>&3; echo a >&3; echo b >&4; echo c >&3;", 0, "").file("p"), "/a/b/c");
        due("8 own positions", runs("exec 3>p 4>p; echo a >&3; echo b >&3; echo c >&4;", 0, "").file("p"), "/c/b");
        due("8 hole", runs("exec 3>p; echo a >&3; echo b >&3; true >p; echo c >&3;", 0, "").file("p"), "///c");
        due("8 append stays behind", runs("exec 3>>p; echo a >p; echo b >&3; echo c >>p;", 0, "").file("p"), "/a/b/c");
        runs("echo a >p; echo b >>p; exec 3<p 4<&3 5<p; read x <&3; read y <&4; read z <&5; echo $x $y $z;", 0, "/a b a");
        runs("echo a >p; { read x; read y; echo $? $y; } <p; echo $x;", 0, "/1 /a");
        runs("(echo a; echo b;) >p; exec 3<p; (read x <&3;); read y <&3; echo $y;", 0, "/b");
        runs("echo a 3>&4; echo $?;", 0, "/1");
        runs("echo a >&-; echo $?; echo b 5>&-;", 0, "/1/b");
        runs("cat <&-; echo $?; echo a 0>&-; cat <&1 >p;", 0, "/1/a");
        runs("echo a >p; cat 0>>p; echo $?; echo b 1<p; echo $?; cat 0>p; echo $?;", 0, "/1/1/1");
        due("8 left to right", runs("echo a >p 2>&1 >q; echo b >p >&2;", 0, "/b").file("p"), "");
        due("8 made before the failure", runs("echo a >p <q >r;", 1, "").core.fileCount(), 1);
        due("8 set back after a failure", runs("exec >p <q; echo a;", 0, "/a").handles(), "ttt.......");
        due("8 names of files", runs("echo a >if >3;", 0, "").core.fileCount(), 2);
        due("8 handle of a redirection", runs("echo 3 4>p 5>&1 >q;", 0, "").file("q"), "/3");
        due("8 no handle", runs("x=3>p; echo $3>q; echo $x;", 0, "/3").file("q"), "/");
        due("8 eight files", runs("true >a >b >c >d >e >f >g >h; true >i; echo $?; true >>i; echo $?; true >a >>b; echo $?;", 0,
            "/1/1/0").core.fileCount(), 8);
        runs("{ exec 3>p; echo a >&3; } 4>q; echo b >&3; echo $?;", 0, "/1");
        due("8 exec with arguments", runs("exec a >p;", 2, "").handles(), "ttt.......");
        due("8 exec", runs("exec 3>p 4<p 5>>p 1>&- 6>&3;", 0, "").handles(), "t.twraw...");
        due("8 set back at the end of the shell", runs("{ { exit 3 >r; } >p; } 5>q;", 3, "").handles(), "ttt.......");
        due("8 exec stays at the end of the shell", runs("exec 3>p; { exec 4>p; exit 4; } 5>q;", 4, "").handles(), "tttw......");
        due("8 file full", runs("x=0; while echo a >>p; do true; done; echo $?;", 0, "/0").core.lineCount(0), 40);
        due("8 position 40", runs("{ while echo a; do true; done; echo b; } >p;", 1, "").file("p"), repeat("/a", 40));
        due("8 output full", runs("while echo a; do true; done; echo b;", 1, repeat("/a", 100)).core.begun(), 203);
    }

    private static void pipelines() {
        runs("echo a | cat | cat;", 0, "/a");
        runs("{ echo a; echo b; } | { read x; read y; echo $y $x; };", 0, "/b a");
        runs("x=1 | echo $x; echo $x;", 0, "//");
        runs("false | true; echo $?; true | false; echo $?; ! false | false; echo $?;", 0, "/0/1/0");
        runs("set pipefail on; exit 3 | exit 4 | true; echo $?; true | true; echo $?; exit 3 | true | exit 5; echo $?;", 0, "/4/0/5");
        runs("set pipefail on; ! false | true; echo $?; set pipefail off; false | true; echo $?;", 0, "/0/0");
        runs("echo a >p | cat; echo b | cat <p;", 0, "/a");
        runs("{ echo a; echo b >&2; } 2>&1 | { cat; echo c; };", 0, "/a/b/c");
        runs("{ echo a; echo b >&2; } | { cat; echo c; };", 0, "/b/a/c");
        runs("echo a | { echo b >&0; echo $?; cat <&1; echo $?; } | cat;", 0, "/1/1");
        runs("echo a | true; cat;", 0, "");
        runs("set pipefail on | true; false | true; echo $?;", 0, "/0");
        runs("echo a | (cat; exit 4;); echo $?;", 0, "/a/4");
        runs("echo a | cat <q; echo $?;", 0, "/1");
        due("8 subshells of a pipeline", runs("a | (true;) | b;", 127, "").trace(), " 0:127:1 5:0:2 14:127:1");
    }

    private static void chains() {
        runs("true && echo a || echo b; false && echo c || echo d; false || true && echo e;", 0, "/a/d/e");
        runs("false && true; echo $?; true || false; echo $?; ! true; echo $?; ! a; echo $?;", 0, "/1/0/1/0");
        runs("if true; then echo a; else echo b; fi; if false; then echo c; else echo d; fi;", 0, "/a/d");
        runs("if false; then true; fi; echo $?; if true; then exit 3 | exit 4; fi; echo $?;", 0, "/0/4");
        runs("if false; then true; else false; fi; echo $?; if true; then fi; echo $?; if false; then else echo $?; fi;", 0, "/1/0/1");
        runs("false; { }; echo $?; false; ( ); echo $?; false; { false; }; echo $?; (exit 9;); echo $?;", 0, "/0/0/1/9");
        runsWith("a\nb\n", "while read x; do echo $x; false; done; echo $?;", 0, "/a/b/1");
        runs("while false; do true; done; echo $?; false; while ! true; do done; echo $?;", 0, "/0/0");
        runsWith("a\n", "while read x; do false; done; echo $?;", 0, "/1");
        runs("false; x = $?; y = $x; echo $x $y $z; x = abc; echo $x;", 0, "/1 1 /abc");
    }

    private static void variables() {
        StringBuilder script = new StringBuilder();
        for (int i = 0; i < 20; i++) {
            script.append("v").append(i).append("=a;");
        }
        Driver d = runsWith("l1\nl2\n", script + "w=b; echo $?; v3=c; echo $?; read w; echo $?; read v4; echo $? $v4; read w; echo $?; w=a|true;",
            0, "/1/0/1/0 l2/1");
        due("8 no 21st variable", d.core.variableCount() + " " + d.variable("w") + " " + d.variable("v3"), "20 null c");
        String word = "abcdefghij";
        String seven = repeat(word + " ", 7).trim();
        runs("x=" + word + "; echo $x $x $x $x $x $x $x $x;", 0, "/" + seven + " abc");
        runs("x=" + word + "; echo $x $x $x $x $x $x $x >p; read y <p; echo $y $y; echo a $y;", 0, "/" + seven + " abc/a " + seven);
        runs("x=" + word + "; echo $x $x $x $x $x $x $x 123 >p; read y <p; echo $y 4; echo a $y;", 0,
            "/" + seven + " 123/a " + seven + " 1");
    }

    private static void commands() {
        runs("true a b; false a b;", 1, "");
        runs("(exit 9;); echo $?; (exit 10;); echo $?; (exit 99;); echo $?; (exit 100;); echo $?; (exit 255;); echo $?; (exit 110;); echo $?;",
            0, "/9/10/99/100/255/110");
        runs("echo $u a $u b $u; x=abcdefghijkl; read $x; echo $?; y=a; echo $x $y >p; read z <p; read $z; echo $?;", 0, "/ a  b /1/2");
        runs("echo $y 1 2 3 4 5 6 >p; read n <p; exit $n; echo $?; x=12345; exit $x;", 12345 % 256, "/2");
        runs("echo; echo a b $x c; echo $?;", 0, "//a b  c/0");
        runs("read; echo $?; read a b; echo $?; read $x; echo $?; x=y; read $x <q; echo $?;", 0, "/2/2/2/1");
        Driver d = runsWith("l1\nl2\nl 3\n", "x=y; read $x; echo $y; read x; false; read $?; read if; echo $? $x; read $1;", 2, "/l1/1 l2");
        due("8 read", d.variable("y") + d.variable("x") + d.variable("1") + d.variable("if"), "l1l2l 3");
        runs("y=a; read y; echo $? $y;", 0, "/1 ");
        runs("cat a; echo $?; echo a | cat; cat;", 0, "/2/a");
        due("8 cat fails at the first line", runsWith("a\nb\n", "cat >&-;", 1, "").core.inputCount(), 1);
        due("8 cat to a full file", runsWith("a\nb\n", "echo 1 >p; exec 3<p 4>p; cat >&4; cat <&3;", 0, "/a/b").file("p"), "/a/b");
        runs("exit 256; echo a;", 0, "");
        runs("exit 99999;", 99999 % 256, "");
        runs("exit 00007;", 7, "");
        runs("exit 123456; echo $?; exit a; echo $?; exit 1 2; echo $?; x=3; exit $x;", 3, "/2/2/2");
        runs("false; exit;", 1, "");
        runs("exit $x; echo $?;", 0, "/2");
        runs("trap; echo $?; trap f; echo $?; trap f no; echo $?; trap f int int; echo $?; trap $x int; echo $?;", 0, "/2/2/2/2/2");
        runs("raise; echo $?; raise exit; echo $?; raise int int; echo $?; raise no; echo $?;", 0, "/2/2/2/2");
        runs("set pipefail; echo $?; set pipefail maybe; echo $?; set no on; echo $?; set pipefail on on; echo $?;", 0, "/2/2/2/2");
        runs("(raise hup;); echo $?; (raise int;); echo $?; (raise term;); echo $?;", 0, "/129/130/143");
        runs("raise term; echo a;", 143, "");
        runs("wait a; echo $?; wait 1 2; echo $?; wait 1; echo $?; wait 0; echo $?; fg; echo $?; fg a; echo $?; fg 99999; echo $?; wait;", 0,
            "/2/2/127/127/2/2/127");
        runs("nosuch a b; echo $?; nosuch >p;", 127, "/127");
    }

    private static void functions() {
        runs("def f { echo a; false; }; f; echo $?; f x y; def f { }; f; echo $?;", 0, "/a/1/a/0");
        runs("def f { def f { echo b; }; echo a; }; f; f;", 0, "/a/b");
        runs("def f { x=1; exit 3; }; (f; echo no;); echo $? $x; f; echo no;", 3, "/3 ");
        runs("def f { echo a; f; echo $?; }; f;", 0, "/a/a/a/a/126/0/0/0");
        runs("def f { echo $?; }; false; f; false; (f;);", 0, "/1/1");
        runs("def f { (g;); }; def g { (f;); }; f; echo $?;", 0, "/126");
        runs("def a{};def b{};def c{};def d{};def e{};def f{};def g{};def h{};def i{};def j{};def k{};echo $?;def a{echo x;};echo $?;a;k;",
            127, "/1/0/x");
        runs("def f { echo a; } >p;", 0, "");
        runs("def f { echo a; }; f >p; cat <p; f | cat;", 0, "/a/a");
        due("8 a call is recorded behind what it executes", runs("def f { true; }; f;", 0, "").trace(), " 8:0:0 17:0:0");
    }

    private static void traps() {
        runs("def f { echo a; false; }; trap f int; raise int; echo $?; trap default int; raise int; echo no;", 130, "/a/0");
        runs("trap ignore hup; raise hup; echo $?; (raise hup; echo b;); trap default hup; (raise hup; echo no;); echo $?;", 0, "/0/b/129");
        runs("trap f term; false; raise term; echo $?;", 0, "/0");
        runs("trap ignore term; false; raise term; echo $?;", 0, "/0");
        runs("def f { g; }; def g { h; }; def h { k; }; def k { trap f int; false; raise int; echo $?; }; f;", 0, "/0");
        runs("def f { echo a; }; trap f int; (raise int; echo no;); echo $?;", 0, "/130");
        runs("def f { echo a; raise int; echo $?; }; trap f int; raise int;", 0, "/a/a/a/a/0/0/0/0");
        runs("def f { echo $?; false; }; trap f exit; exit 7; echo no;", 7, "/7");
        runs("def f { echo a; exit 9; }; trap f exit; false;", 9, "/a");
        runs("def f { false; exit; echo no; }; trap f exit; exit 7;", 1, "");
        runs("def f { echo a; raise term; }; trap f exit;", 143, "/a");
        runs("def f { echo a; }; trap f exit; (echo b;); (trap f exit; echo c;); echo d;", 0, "/b/c/a/d/a");
        runs("def f { echo a; }; trap f exit; exit 1 | (exit 2;); trap ignore exit;", 0, "");
        runs("def f { echo a; }; trap f exit; { echo b; exit 3; } >p; echo no;", 3, "/a");
        runs("def f { echo a; }; { trap f exit; exit 3; } | cat;", 0, "/a");
        runs("trap f exit; exit 3;", 3, "");
        runs("def f { g; }; def g { h; }; def h { k; }; def k { (trap z exit; exit 3;); echo $?; }; def z { echo no; }; f;", 0, "/3");
        runs("def f { g; }; def g { h; }; def h { (trap z exit; exit 3;); echo $?; }; def z { echo yes; zz; echo $?; }; def zz { }; f;", 0,
            "/yes/126/3");
        runs("def f { f; exit 3; }; def g { echo $?; g; }; trap g exit; f;", 3, "/3/0/0/0");
        Driver d = runs("def f { echo a; trap g exit; exit 5; }; def g { echo b; }; trap f exit; exit 3;", 5, "/a");
        due("8 an end during the exit function is not answered by another call", d.core.actionOf(3), Driver.name("g"));
        due("8 the action becomes default", runs("def f { }; trap f exit; trap f int;", 0, "").core.actionOf(3), 0);
        due("8 an exit function of an earlier run", runAgain("def f { echo a; }; trap f exit | true; trap f exit;"), "/a/a");
        runs("trap default exit; trap ignore exit; exit 4;", 4, "");
        runs("set pipefail on; (false | true;); echo $?; (set pipefail off;); false | true; echo $?;", 0, "/1/1");
    }

    private static String runAgain(String script) {
        Driver d = new Driver();
        d.loadAndRun(script);
        d.core.run();
        return d.outputs();
    }

    private static void jobs() {
        runs("echo a & echo b; wait; echo c;", 0, "/b/a/c");
        runs("echo a & echo b & exit 3 & wait; echo c $?;", 0, "/a/b/c 0");
        runs("echo a & echo b & echo c;", 0, "/c/a/b");
        runs("false; echo $? & echo $?;", 0, "/0/1");
        runs("exit 3 & exit 4 & wait 2; echo $?; wait 2; echo $?; wait 1; echo $?; wait 3; echo $?; wait; echo $?;", 0, "/4/127/3/127/0");
        runs("exit 3 & fg 1; echo $?; fg 1; echo $?;", 0, "/3/127");
        runsWith("a\n", "read x & wait 1; echo $?; read x; echo $x;", 0, "/149/a");
        runsWith("a\n", "{ read x; echo $x; } & fg 1; echo $?;", 0, "/a/0");
        runsWith("a\n", "{ (cat;); echo $?; } & wait;", 0, "/149");
        runsWith("a\n", "{ cat & fg 1; echo $?; } & wait;", 0, "/149");
        runsWith("a\n", "{ cat & wait 1; echo $?; } & fg 1;", 0, "/149");
        runsWith("a\n", "def f { echo e; read x; echo no; }; { trap f exit; exit 3; } & wait 1; echo $?;", 0, "/e/149");
        runsWith("a\n", "cat <p & wait 1; echo $?; echo b >p; cat <p & wait 1; wait 2;", 0, "/1/b");
        due("8 read in the background leaves the line", runsWith("a\n", "cat &", 0, "").core.inputCount(), 1);
        runs("x=1; echo $x & x=2; def f { echo a; }; f & def f { echo b; }; wait;", 0, "/1/a");
        runs("{ echo a & } >p; wait; cat <p;", 0, "/a");
        runs("(echo a & echo b;); echo c;", 0, "/b/a/c");
        runs("def f { echo x & }; trap f exit; echo y & exit 3;", 3, "/y/x");
        runs("(wait 1; echo $?;) & true & (wait; fg 2; echo $?;);", 0, "/127/127");
        runs("a&a&a&a&a&a&a&echo b& echo $?; echo c& echo $?; wait 8; echo d& echo $?; wait 9;", 127, "/0/1/b/1");
        runs("def f { g; }; def g { h; }; def h { k; }; def k { z & wait 1; echo $?; }; def z { echo no; }; f;", 0, "/126");
        runs("def f { wait 1; }; def g { f; }; def h { g; }; def k { h; }; def z { echo yes; }; z & k;", 0, "/yes");
        runs("echo a && false & wait 1;", 1, "/a");
        runs("echo a | cat & wait 1; echo $?;", 0, "/a/0");
        due("8 depth of a job", runs("true & (true & );", 0, "").trace(), " 8:0:2 0:0:1");
    }

    private static void limit() {
        Driver d = runs("x=1; while true; do true; done;", 0, "");
        due("8 stopped", d.core.isStopped() + " " + d.core.begun() + " " + d.core.status(), "true 300 0");
        Driver e = runs("exec 3>p; def f { echo no; }; trap f exit; echo a & { exec 4>p; while true; do false; done; } >p; echo no;", 1, "");
        due("8 stopped", e.core.isStopped() + " " + e.core.jobCount() + " " + e.core.jobStatus(1), "true 1 -1");
        due("8 handles at the beginning of the run", e.handles(), "ttt.......");
        due("8 the action stays", e.core.actionOf(3), Driver.name("f"));
        Driver g = runs("false; (while true; do true; done;);", 1, "");
        due("8 stopped in a subshell", g.core.isStopped() + " " + g.core.status() + " " + g.core.forks(), "true 1 1");
        Driver h = runs(repeat("a;", 300), 127, "");
        due("8 300 commands", h.core.isStopped() + " " + h.core.begun(), "false 300");
        Driver i = runs(repeat("!a;", 200) + "(" + repeat("{};", 10) + ");", 0, "");
        due("8 not stopped", i.core.isStopped() + " " + i.core.begun(), "false 211");
        Driver j = runs(repeat("a;", 300) + "a|a;", 127, "");
        due("8 stopped behind a subshell", j.core.isStopped() + " " + j.core.begun() + " " + j.core.forks(), "true 300 1");
        Driver k = runs("while true; do done &", 0, "");
        due("8 stopped in a job", k.core.isStopped() + " " + k.core.jobCount() + " " + k.core.jobStatus(1), "true 1 -1");
        due("8 the next run begins anew", k.core.run() + " " + k.core.begun(), "0 300");
    }

    // ---- promises 9 to 16

    private static void counts() {
        Driver d = new Driver();
        d.loadAndRun("exit 3 & (false;); exit 7 | true; { wait 1; }; raise hup;");
        due("9 status", d.core.status(), 129);
        due("10 not stopped", d.core.isStopped(), false);
        due("11 begun", d.core.begun(), 8);
        due("12 forks", d.core.forks(), 4);
        due("13 jobs", d.core.jobCount(), 1);
        due("14 status of a job", d.core.jobStatus(1) + " " + d.core.jobStatus(2) + " " + d.core.jobStatus(0), "3 -1 -1");
        due("14 wrong numbers", d.core.jobStatus(-1) + " " + d.core.jobStatus(Integer.MAX_VALUE) + " " + d.core.jobStatus(Integer.MIN_VALUE),
            "-1 -1 -1");
        due("13 jobs of subshells do not count", runs("(a & b &); c &", 0, "").core.jobCount(), 1);
        due("12 jobs count", runs("(a & b &); c &", 0, "").core.forks(), 4);
        due("12 no job, no subshell", runs("a&a&a&a&a&a&a&a&a&", 1, "").core.forks(), 8);
        due("14 jobs that the end runs", runs("exit 5 & true;", 0, "").core.jobStatus(1), 5);
        due("11 a job that is not run begins nothing", runs("{ } & while true; do done;", 0, "").core.begun(), 300);
        due("9 kept for the next run", statusOfTwoRuns(), "1 /0/1");
    }

    private static String statusOfTwoRuns() {
        Driver d = new Driver();
        d.loadAndRun("echo $?; false;");
        d.core.run();
        return d.core.status() + " " + d.outputs();
    }

    private static void undoing() {
        Driver d = new Driver();
        d.type("a\nb\n");
        d.load("exec 3>>p; echo x >&3; exec 4>q 5>&4; read v; echo $v; echo z >&4; w=1; def f { }; trap f int; set pipefail on; true & false;");
        due("16 load forgets", d.core.undoDepth(), 0);
        d.core.run();
        String first = all(d);
        d.type("c\n");
        String second = all(d);
        d.core.run();
        due("16 depth", d.core.undoDepth(), 3);
        due("15 the second run", d.file("p") + d.file("q"), "/x/x/z");
        due("15 undo", d.core.undo(), 2);
        due("15 before the second run", all(d), second);
        due("15 undo", d.core.undo(), 1);
        due("15 before typing", all(d), first);
        d.fill("keep");
        d.core.formatHandles();
        due("15 undo", d.core.undo(), 0);
        due("15 at first", all(d), " ttt.......0false 0 0 0 0false0 0 0 0 2 0");
        due("15 none left", d.core.undo() + " " + d.core.undoDepth(), "-1 0");
        due("15 the buffer stays", d.core.truncate(4) + " " + d.core.truncate(5), "true false");
        due("15 the script stays", d.core.run() + " " + d.outputs(), "1 /a");
        for (int i = 0; i < 9; i++) {
            d.type("");
        }
        due("16 at most 6", d.core.undoDepth(), 6);
        for (int i = 5; i >= 0; i--) {
            due("15 undo", d.core.undo(), i);
        }
        due("15 none left", d.core.undo(), -1);
        for (int i = 1; i <= 9; i++) {
            d.type(repeat("l" + i + "\n", i % 3));
        }
        due("15 input", d.core.inputCount(), 10);
        for (int left = 9; left > 3; left -= 3) {
            due("15 undo", d.core.undo() + d.core.undo() + d.core.undo() + " " + d.core.inputCount(), 3 * (left - 5) + " " + (left - 2));
        }
        d.loadAndRun("cat;");
        due("15 the lines before", d.outputs(), "/a/b/l1/l2/l2");
        positions();
        stoppedBefore();
    }

    /** Undo gives back the positions of handles, and which of them share one. */
    private static void positions() {
        Driver e = new Driver();
        e.load("if read x; then echo $x >&3; fi; if read y; then echo $y >&4; else exec 3>p 4>&3; fi;");
        e.core.run();
        e.type("a\nb\n");
        e.core.run();
        due("15 written", e.file("p"), "/a/b");
        e.core.undo();
        due("15 nothing written", e.file("p") + e.handles(), "tttww.....");
        e.core.run();
        due("15 written again from the first position", e.file("p"), "/a/b");
        e.type("c\nd\n");
        e.core.run();
        due("15 one position for both", e.file("p"), "/a/b/c/d");
        e.core.undo();
        e.core.undo();
        e.core.undo();
        e.core.undo();
        due("15 the first run", e.core.fileCount() + e.handles() + e.file("p"), "1tttww.....");
        e.core.undo();
        due("15 no file", e.core.fileCount() + e.handles(), "0ttt.......");
    }

    private static void stoppedBefore() {
        Driver d = new Driver();
        d.load("while ! read x; do done;");
        d.core.run();
        d.type("a");
        d.core.run();
        due("10 the latest run did not stop", d.core.isStopped(), false);
        d.core.undo();
        due("15 the run before it did", d.core.isStopped() + " " + d.core.begun(), "true 300");
    }

    private static String all(Driver d) {
        ShellCore x = d.core;
        return d.outputs() + d.trace() + " " + d.handles() + x.variableCount() + x.isPipefail() + " " + x.actionOf(1) + " " + x.status()
            + " " + x.begun() + " " + x.forks() + x.isStopped() + x.jobCount() + " " + x.fileCount() + " " + x.functionCount()
            + " " + x.failures() + " " + x.inputCount() + " " + x.outputCount() + (x.fileCount() > 0 ? d.file("p") + d.file("q") : "");
    }

    // ---- promises 17 to 37

    private static void mainShell() {
        Driver e = runs("exec 3>p 4<p 5>>p 2>&-; x=a; abcdefghijkl=b; 9=c; def f { }; trap f hup; trap ignore term; set pipefail on;", 0, "");
        ShellCore y = e.core;
        due("17 kinds", "" + y.handleKind(0) + y.handleKind(1) + y.handleKind(2) + y.handleKind(3) + y.handleKind(4) + y.handleKind(5)
            + y.handleKind(6), "1103240");
        throwing("17 no handle", OUT_OF_BOUNDS, () -> y.handleKind(10));
        throwing("17 no handle", OUT_OF_BOUNDS, () -> y.handleKind(-1));
        due("18 variables", y.variableCount(), 3);
        due("19 set", y.isSet(24) + " " + y.isSet(Driver.name("abcdefghijkl")) + " " + y.isSet(36), "true true true");
        due("19 not set", y.isSet(25) + " " + y.isSet(0) + " " + y.isSet(-1) + " " + y.isSet(Long.MIN_VALUE), "false false false false");
        due("20 functions", y.functionCount(), 1);
        due("21 defined", y.isDefined(6) + " " + y.isDefined(7) + " " + y.isDefined(0) + " " + y.isDefined(-2), "true false false false");
        due("22 actions", y.actionOf(0) + " " + y.actionOf(1) + " " + y.actionOf(2) + " " + y.actionOf(3), "6 0 -2 0");
        throwing("22 no signal", OUT_OF_BOUNDS, () -> y.actionOf(4));
        throwing("22 no signal", OUT_OF_BOUNDS, () -> y.actionOf(-1));
        due("23 pipefail", y.isPipefail(), true);
        due("23 off", runs("set pipefail on; set pipefail off;", 0, "").core.isPipefail(), false);
        due("34 value", e.variable("abcdefghijkl") + y.formatVariable(24) + y.formattedByte(0), "b197");
        due("34 no variable", y.formatVariable(25) + " " + y.formattedByte(0), "-1 97");
        due("34 empty value", runs("x=$y;", 0, "").core.formatVariable(24), 0);
        due("35 handles", y.formatHandles() + e.handles(), "10tt.wra....");
    }

    private static void files() {
        Driver d = runs("echo a >p; echo b >>p; echo >abcdefghijkl; true >9;", 0, "");
        ShellCore x = d.core;
        due("24 files", x.fileCount(), 3);
        due("25 numbers", x.fileNamed(16) + " " + x.fileNamed(Driver.name("abcdefghijkl")) + " " + x.fileNamed(36), "0 1 2");
        due("25 no file", x.fileNamed(17) + " " + x.fileNamed(0) + " " + x.fileNamed(-1), "-1 -1 -1");
        due("26 lines", x.lineCount(0) + " " + x.lineCount(1) + " " + x.lineCount(2), "2 1 0");
        throwing("26 no file", OUT_OF_BOUNDS, () -> x.lineCount(3));
        throwing("26 no file", OUT_OF_BOUNDS, () -> x.lineCount(-1));
        due("32 line", x.formatLine(0, 1) + " " + x.formattedByte(0) + " " + x.formattedByte(1), "1 98 -1");
        throwing("32 no line", OUT_OF_BOUNDS, () -> x.formatLine(0, 2));
        throwing("32 no line", OUT_OF_BOUNDS, () -> x.formatLine(0, -1));
        throwing("32 no line", OUT_OF_BOUNDS, () -> x.formatLine(2, 0));
        throwing("32 no file", OUT_OF_BOUNDS, () -> x.formatLine(3, 0));
        throwing("32 no file", OUT_OF_BOUNDS, () -> x.formatLine(-1, 0));
        due("32 the text stays", x.formattedByte(0), 98);
        due("32 empty line", x.formatLine(1, 0) + " " + x.formattedByte(0), "0 -1");
        due("36 names", d.formatted(x.formatName(0)) + " " + d.formatted(x.formatName(1)) + " " + d.formatted(x.formatName(2)),
            "p abcdefghijkl 9");
        due("36 all signs", fileName("z09ayb1"), "z09ayb1");
        throwing("36 no file", OUT_OF_BOUNDS, () -> x.formatName(3));
        throwing("36 no file", OUT_OF_BOUNDS, () -> x.formatName(-1));
    }

    private static String fileName(String name) {
        Driver d = runs("true >" + name + ";", 0, "");
        return d.formatted(d.core.formatName(0));
    }

    private static void terminal() {
        Driver d = runsWith("l1\nl2\n" + repeat("\u00fe", 80) + "z\nl4", "read x; echo a; cat >p;", 0, "/a");
        due("27 output", d.core.outputCount(), 1);
        due("28 input", d.core.inputCount(), 0);
        due("28 input left", runsWith("a\nb\nc\n", "read x;", 0, "").core.inputCount(), 2);
        due("33 line", d.core.formatOutput(0) + " " + d.core.formattedByte(0), "1 97");
        throwing("33 no line", OUT_OF_BOUNDS, () -> d.core.formatOutput(1));
        throwing("33 no line", OUT_OF_BOUNDS, () -> d.core.formatOutput(-1));
        throwing("33 no line", OUT_OF_BOUNDS, () -> d.core.formatOutput(100));
        due("37 bytes", d.core.formatLine(0, 1) + " " + d.core.formattedByte(0) + " " + d.core.formattedByte(79), "80 254 254");
        due("37 no byte", d.core.formattedByte(80) + " " + d.core.formattedByte(-1) + " " + d.core.formattedByte(Integer.MAX_VALUE), "-1 -1 -1");
        due("37 a shorter text", d.core.formatOutput(0) + " " + d.core.formattedByte(0) + " " + d.core.formattedByte(1), "1 97 -1");
    }

    private static void tracing() {
        Driver d = runs("x=1; { false; } >p; (a; exit 3;); true | b; cat <q; exec c; if true; then fi; d & exit 4;", 4, "");
        due("29 records", d.core.traceCount(), 9);
        due("30 records", d.trace(), " 0:0:0 7:1:0 21:127:1 34:0:1 41:127:1 44:1:0 52:2:0 63:0:0 78:127:1");
        due("31 failures", d.core.failures(), 6);
        throwing("30 no record", OUT_OF_BOUNDS, () -> d.core.traceField(9, 0));
        throwing("30 no record", OUT_OF_BOUNDS, () -> d.core.traceField(-1, 0));
        throwing("30 no field", ARGUMENT, () -> d.core.traceField(0, 3));
        throwing("30 no field", ARGUMENT, () -> d.core.traceField(0, -1));
        Driver e = runs(repeat("a;", 30) + repeat("true;", 59), 0, "");
        due("29 the latest 60", e.core.traceCount(), 60);
        due("31 failures among them", e.core.failures(), 1);
        due("30 the oldest", e.core.traceField(0, 0) + " " + e.core.traceField(0, 1) + " " + e.core.traceField(59, 0), "58 127 350");
        throwing("30 no record", OUT_OF_BOUNDS, () -> e.core.traceField(60, 0));
        due("29 what the end cuts off", runs("def f { exit 3; }; f;", 3, "").core.traceCount(), 0);
        due("29 empty at the beginning", emptyAtTheBeginning(), "1 1");
        due("30 an exit function", runs("def f { a; }; trap f exit;", 0, "").trace(), " 14:0:0 8:127:0");
    }

    private static String emptyAtTheBeginning() {
        Driver d = new Driver();
        d.loadAndRun("true;");
        int first = d.core.traceCount();
        d.core.run();
        return first + " " + d.core.traceCount();
    }

    public static void main(String[] args) {
        newObject();
        appending();
        truncating();
        loading();
        errors();
        typing();
        redirections();
        pipelines();
        chains();
        variables();
        commands();
        functions();
        traps();
        jobs();
        limit();
        counts();
        undoing();
        mainShell();
        files();
        terminal();
        tracing();
        end();
    }
}
