/** The boundaries of lines, names, files, the terminal and handles, each on both sides: the last case allowed, the first refused. */
public final class WorldEdgeTest extends Checks {
    private static final String EIGHTY = repeat("abcdefghij", 8);
    private static final String LESS = EIGHTY.substring(1);
    // The name with the greatest value, 37 to the power of 12, less 1.
    private static final String LAST_NAME = "999999999999";
    private static final long LAST_VALUE = 6582952005840035280L;

    // ---- lines and names

    private static void linesOf80Bytes() {
        Driver d = runsWith(EIGHTY + "\n" + EIGHTY + "k\n" + LESS + "\n",
            "read a; read b; read c; x=$a; y=$c; echo $a; echo $b; echo $c; echo $c 1; echo $c $u; echo $a 1; echo 12 $c; echo $a $a;", 0,
            "/" + EIGHTY + "/" + EIGHTY + "/" + LESS + "/" + LESS + " /" + LESS + " /" + EIGHTY + "/12 " + LESS.substring(0, 77)
                + "/" + EIGHTY);
        due("assigned 80 and 79 bytes", d.variable("x") + d.variable("y"), EIGHTY + LESS);
        due("lengths", d.core.formatOutput(0) + " " + d.core.formatOutput(2) + " " + d.core.formatOutput(3), "80 79 80");
        Driver e = runsWith(EIGHTY + "\n", "read a; echo $a >p; echo 1 $a >>p; echo 1 $a | cat >>p; { read b; read c; } <p; x=$c;", 0, "");
        String cut = "1 " + EIGHTY.substring(0, 78);
        due("written to a file and to a pipe", e.file("p"), "/" + EIGHTY + "/" + cut + "/" + cut);
        due("read again", e.variable("b") + e.variable("x"), EIGHTY + cut);
        runsWith(LESS + "\n", "read a; echo $a | { read x; echo $x; }; echo $a 12 | { read x; echo $x; };", 0, "/" + LESS + "/" + LESS + " ");
        String all = repeat("\u00ff\u0001\u0080\r", 20);
        due("any bytes", runsWith(all, "read a; echo $a >p; x=$a;", 0, "").file("p"), "/" + all);
    }

    private static void namesOf1And12Letters() {
        due("the value of the last name", Driver.name(LAST_NAME), LAST_VALUE);
        Driver d = runs("a=1; 9=2; abcdefghijkl=3; 999999999999=4; def z { }; def 999999999999 { echo f; }; trap z hup;"
            + "trap 999999999999 int; trap 999999999999 exit; true >b >999999999999; 999999999999; raise int;", 0, "/f/f/f");
        due("variables", d.variable("a") + d.variable("9") + d.variable("abcdefghijkl") + d.variable(LAST_NAME), "1234");
        due("set", d.core.isSet(1) + " " + d.core.isSet(36) + " " + d.core.isSet(LAST_VALUE), "true true true");
        due("defined", d.core.isDefined(26) + " " + d.core.isDefined(LAST_VALUE), "true true");
        due("actions", d.core.actionOf(0) + " " + d.core.actionOf(1), "26 " + LAST_VALUE);
        due("files", d.core.fileNamed(2) + " " + d.core.fileNamed(LAST_VALUE), "0 1");
        due("names of files", d.formatted(d.core.formatName(0)) + d.formatted(d.core.formatName(1)), "b" + LAST_NAME);
        long[] noNames = {0, -1, -2, 37, 37 * 37, LAST_VALUE + 1, Long.MAX_VALUE, Long.MIN_VALUE, 1L << 32, 1L + (1L << 32)};
        for (long name : noNames) {
            stays("no name " + name, d, "false false -1 -1",
                () -> d.core.isSet(name) + " " + d.core.isDefined(name) + " " + d.core.fileNamed(name) + " " + d.core.formatVariable(name));
        }
    }

    /** Lines that are names and lines that are none, as the values of variables. */
    private static void namesInVariables() {
        String input = "abcdefghijkl\nabcdefghijklm\n\na b\nA\nl1\nl2\n";
        Driver d = runsWith(input, "read a; read b; read c; read d; read e; read $a; echo $?; read $b; echo $?; read $c; echo $?; read $d;"
            + "echo $?; read $e; echo $?; read $u; echo $?; echo $abcdefghijkl;", 0, "/0/2/2/2/2/2/l1");
        due("refused, so the line is still there", d.core.inputCount() + " " + d.core.variableCount(), "1 6");
        Driver e = runsWith(input, "read a; read b; read c; read d; read e; trap $a int; echo $?; trap $b int; echo $?; trap $c int; echo $?;"
            + "trap $d int; echo $?; trap $e int; echo $?;", 0, "/0/2/2/2/2");
        due("refused, so the action stays", e.core.actionOf(1), Driver.name("abcdefghijkl"));
        runsWith(repeat("k", 80) + "\nx\n", "read a; read $a; echo $?; read $x;", 2, "/2");
        runsWith("\u00e9\na`\na{\na/\na:\nl\n", "read a; read b; read c; read d; read e; read $a; echo $?; read $b; echo $?; read $c; echo $?;"
            + "read $d; echo $?; read $e; echo $?;", 0, "/2/2/2/2/2");
    }

    // ---- the world

    private static void files() {
        Driver d = runs("true >a; true >>b; true >c >d >e >f; { } >g; true <i; echo $?; echo x >>h; echo $?;", 0, "/1/0");
        due("8 files", d.core.fileCount() + " " + d.core.fileNamed(8), "8 7");
        String before = d.file("a") + d.file("g") + d.file("h");
        String[] refused = {"true >i;", "true >>i;", "exec 3>i;", "echo x >i;", "def z { } >>i;", "{ echo x; } >i;", "true | true >i;", "(true;) >>i;"};
        for (String script : refused) {
            due("a ninth file: " + script, d.loadAndRun(script), 1);
            due("no ninth file: " + script, d.core.fileCount() + " " + d.core.fileNamed(9) + " " + d.core.functionCount() + d.handles(),
                "8 -1 0ttt.......");
            due("the files stay: " + script, d.file("a") + d.file("g") + d.file("h"), before);
        }
        due("no such file", d.loadAndRun("true <i;") + " " + d.core.fileCount(), "1 8");
        due("a file that there is", d.loadAndRun("echo y >>h; true <a >>b >c; echo z >h;") + d.file("h"), "0/z");
        due("no file of the 8 was made anew", d.core.fileCount() + " " + d.core.fileNamed(8), "8 7");
        d.core.undo();
        due("undone", d.file("h"), "/x");
        throwing("the eighth file and no ninth", OUT_OF_BOUNDS, () -> d.core.lineCount(7) + d.core.lineCount(8));
    }

    private static void linesOfFiles() {
        String less = repeat("l\n", 39);
        String lines = repeat("/l", 39);
        due(">> up to 40", runsWith(less, "cat >>p; echo $?; echo m >>p; echo $?; echo n >>p; echo $?;", 0, "/0/0/1").file("p"), lines + "/m");
        due("> up to 40", runsWith(less, "exec 3>p; cat >&3; echo $?; echo m >&3; echo $?; echo n >&3; echo $?;", 0, "/0/0/1").file("p"),
            lines + "/m");
        due("cat 40 lines", runsWith(less + "m", "cat >p;", 0, "").file("p"), lines + "/m");
        due("cat 41 lines", runsWith(less + "m", "echo k >p; cat >>p;", 1, "").file("p"), "/k" + lines);
        due("cat 41 lines with >", runsWith(less + "m", "exec 3>p; echo k >&3; cat >&3;", 1, "").file("p"), "/k" + lines);
        due("> makes place again", runsWith(less + "m", "cat >p; echo n >p;", 0, "").file("p"), "/n");
        due("other files have their own 40", runsWith(less + "m", "cat >p; cat <p >q; cat <p >>r; echo n >>q;", 1, "").file("r"), lines + "/m");
    }

    private static void positionsOfWriting() {
        String less = repeat("l\n", 39);
        due("position 39 of an empty file", runsWith(less, "exec 3>p; cat >&3; true >p; echo n >&3; echo $?;", 0, "/0").file("p"),
            repeat("/", 39) + "/n");
        due("position 40 of an empty file", runsWith(less, "exec 3>p; cat >&3; echo m >&3; true >p; echo n >&3; echo $?;", 0, "/1").file("p"), "");
        due("position 40 of a file with a line",
            runsWith(less, "exec 3>p; cat >&3; echo m >&3; echo k >p; echo n >&3; echo $?; echo n >&3 >>p;", 0, "/1").file("p"), "/k/n");
        String two = "a\nb\n";
        due("behind the last line", runsWith(two, "exec 3>p; cat >&3; true >p; echo n >&3; echo o >&3;", 0, "").file("p"), "///n/o");
        due("one behind", runsWith(two, "exec 3>p; cat >&3; echo k >p; echo n >&3; echo o >&3;", 0, "").file("p"), "/k//n/o");
        due("at the end", runsWith(two, "exec 3>p; cat >&3; echo k >p; echo m >>p; echo n >&3; echo o >&3;", 0, "").file("p"), "/k/m/n/o");
        due("before the end", runsWith(two, "exec 3>p; cat >&3; { echo k; echo m; echo i; echo j; } >p; echo n >&3;", 0, "").file("p"),
            "/k/m/n/j");
        due("a failure writes no empty lines", runsWith(less + "x", "exec 3>p; cat >&3; echo k >p; echo n >&3;", 1, "").file("p"), "/k");
        due("the position stays at a failure", runsWith(less, "exec 3>p; cat >&3; echo m >&3; echo n >&3; echo o >&3; echo $?;", 0, "/1")
            .core.lineCount(0), 40);
    }

    private static void outputLines() {
        Driver d = new Driver();
        d.load("cat;");
        String lines = "";
        for (int count : new int[] {40, 40, 18}) {
            d.type(repeat("l\n", count));
            due("output", d.core.run(), 0);
            lines += repeat("/l", count);
        }
        d.type("y\nz\nzz\n");
        due("98 lines", d.core.outputCount() + " " + d.core.inputCount(), "98 3");
        d.load("read x; echo $x; echo $?; echo $?;");
        due("99, 100 and 101 lines", d.core.run(), 1);
        due("the last two of 100", d.outputs(), lines + "/y/0");
        due("echo fails", d.loadAndRun("echo a;") + " " + d.core.outputCount() + d.output(99), "1 1000");
        due("cat fails at once", d.loadAndRun("cat;") + " " + d.core.outputCount() + " " + d.core.inputCount(), "1 100 1");
        due("other handles of the terminal fail, too", d.loadAndRun("echo a >&0 || echo b >&2;"), 1);
        due("cat without lines does not write", d.loadAndRun("true >p; cat <p;"), 0);
        due("a file is not full", d.loadAndRun("echo a >p && cat <p >q;") + d.file("q"), "0/a");
        throwing("no line 100", OUT_OF_BOUNDS, () -> d.core.formatOutput(100));
    }

    private static void inputLines() {
        Driver d = new Driver();
        due("39 lines", d.type(repeat("l\n", 39)), 39);
        stays("39 and 2 lines", d, -1, () -> d.type("a\nb\n"));
        stays("39 and 2 lines, the last one without line feed", d, -1, () -> d.type("a\nb"));
        stays("39 and 2 line feeds", d, -1, () -> d.type("\n\n"));
        due("39 and 1", d.type("m"), 40);
        stays("40 and 1", d, -1, () -> d.type("n"));
        stays("40 and an empty line", d, -1, () -> d.type("\n"));
        d.fill("n");
        stays("the exception", d, "IllegalStateException", () -> d.core.type());
        due("the buffer is empty behind it", d.core.truncate(1) + " " + d.core.append(0, 0, 0, 0, 0), "false 20");
        due("40 and none", d.type("") + " " + d.core.undoDepth(), "40 3");
        d.core.undo();
        due("an undone line makes place", d.core.undo() + " " + d.core.inputCount() + " " + d.type("\n"), "1 39 40");
        due("read lines make place", d.loadAndRun("read x; read x;") + " " + d.type("a\nb") + " " + d.type("c"), "0 40 -1");
        due("the order of lines", d.loadAndRun("cat >p;") + d.file("p"), "0" + repeat("/l", 37) + "//a/b");
    }

    private static void typedLines() {
        Driver d = new Driver();
        String full = repeat("k", 80);
        due("80 and 81 bytes", d.type(full + "\n" + full + "x\n" + full + "y") + " " + d.type(repeat("z", 700)), "3 4");
        d.loadAndRun("cat >p;");
        due("cut", d.file("p"), "/" + full + "/" + full + "/" + full + "/" + repeat("z", 80));
        due("line feeds", new Driver().type("\n") + " " + new Driver().type("\n\n") + " " + new Driver().type("a\n\n") + " "
            + new Driver().type("\na"), "1 2 2 2");
        due("others do not end a line", new Driver().type("a\rb\0c\u000bd\u008ae"), 1);
        Driver e = new Driver();
        e.type("\n\na\n\n");
        e.loadAndRun("cat >p; read x;");
        due("empty lines", e.file("p"), "///a/");
    }

    // ---- handles

    private static void reading() {
        runs("echo a >p; exec 3<p; read x <&3; echo $?; read y <&3; echo $? $y; echo b >>p; read y <&3; echo $? $y;", 0, "/0/1 /0 b");
        runs("echo >p; echo >>p; echo a >>p; echo >>p; { read x; read y; read z; read u; echo $? $x $y $z $u; read v; echo $?; } <p; cat <p;", 0,
            "/0   a /1///a/");
        runs("true >p; exec 3<p; read x <&3; echo $?; echo a >>p; read x <&3; echo $x;", 0, "/1/a");
        runs("echo a >p; echo b >>p; exec 3<p; cat <&3; echo c >p; read x <&3; echo $?; echo d >>p; read x <&3; echo $?; echo e >>p;"
            + "read x <&3; echo $x;", 0, "/a/b/1/1/e");
        runs("x=k; read x <&-; echo $? $x; read y <&-; cat <&-; echo $?;", 0, "/1 k/1");
        runs("echo k >q; x=k; read x 0>p; echo $? $x; read x 0>>q; echo $? $x; cat 0>>q; echo $?; cat <q;", 0, "/1 k/1 k/1/k");
        runs("x=k; echo a | { read x <&1; echo $? $x >&2; cat <&1; echo $? >&2; } | cat;", 0, "/1 k/1");
        runs("x=k; echo a | { read x; echo $x; read x; echo $? $x; read x; echo $?; };", 0, "/a/1 /1");
        runsWith("a\nb\nc", "read x <&1; read y <&2; exec 5<&0; read z <&5; echo $x $y $z; read z <&5; echo $? $z; echo d >&0;", 0,
            "/a b c/1 /d");
        due("40 lines", runsWith(repeat("l\n", 39) + "m", "cat >p; exec 3<p; while read x <&3; do y=$x; done; echo $y $x; read x <&3; echo $?;",
            0, "/m /1").core.begun(), 87);
    }

    private static void failingToWrite() {
        due("closed", runs("echo a >&-; echo $?; exec 1>&-; echo b; exec 1>&2; echo $?;", 0, "/1/0").core.outputCount(), 2);
        due("reading", runs("echo k >p; exec 3<p; echo a >&3; echo $?; cat <&3;", 0, "/1/k").file("p"), "/k");
        runs("echo k | { echo a >&0; echo $?; cat; };", 0, "/1/k");
        runsWith("a\nb", "cat >&-; echo $?; read x; echo $x;", 0, "/1/b");
        runs("echo k >p; cat <p >>p; echo $?;", 0, "/1");
        runs("(echo a; echo b;) | cat >&-; echo $?;", 0, "/1");
    }

    private static void sharing() {
        due("the same open file", runs("exec 3>p 4>&3; (echo a >&3;); echo b >&4; { echo c; } >&3;", 0, "").file("p"), "/a/b/c");
        due("the same, set back and closed", runs("exec 3>p; { exec 4>&3; echo a >&4; } 5>q; exec 6>&3 3>&-; echo b >&6;", 0, "").file("p"), "/a/b");
        due("two open files", runs("exec 3>p 4>>p; echo a >&4; echo b >&4; echo c >&3;", 0, "").file("p"), "/c/b");
        runs("echo 1 >p; echo 2 >>p; echo 3 >>p; exec 3<p 4<p 5<&3; read a <&3; read b <&5; read c <&4; (read d <&3; echo $d;); echo $a $b $c;",
            0, "/3/1 2 1");
        due("a handle to itself", runs("exec 3>p; echo a 3>&3 >&3; echo b >&3; exec 4>&4;", 1, "").file("p"), "/a/b");
        due("handles 0 and 9", runs("exec 9>p 0<&-; echo a >&9; exec 8>&0;", 1, "").handles(), ".tt......w");
        due("a job shares positions, too", runs("exec 3>p; echo a >&3 & echo b >&3; wait; echo c >&3;", 0, "").file("p"), "/b/a/c");
    }

    public static void main(String[] args) {
        linesOf80Bytes();
        namesOf1And12Letters();
        namesInVariables();
        files();
        linesOfFiles();
        positionsOfWriting();
        outputLines();
        inputLines();
        typedLines();
        reading();
        failingToWrite();
        sharing();
        end();
    }
}
