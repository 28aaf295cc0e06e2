/** The boundaries of the buffer, of script texts and of their errors, each on both sides: the last case allowed, the first refused. */
public final class TextEdgeTest extends Checks {
    private static final int SYNTAX = 1;
    private static final int TOO_DEEP = 2;
    private static final int TOO_LONG = 3;
    private static final String TWELVE = "abcdefghijkl";
    private static final String THIRTEEN = "abcdefghijklm";
    private static final String[] WORDS = {"if", "then", "else", "fi", "while", "do", "done", "def"};
    private static final String[] COMMANDS = {"true", "false", "echo", "read", "cat", "exec", "exit", "trap", "raise", "set", "wait", "fg"};

    // ---- the buffer

    /** The number of bytes in the buffer is as given. */
    private static void buffer(String what, ShellCore x, int length) {
        due(what, x.truncate(length + 1) + " " + x.truncate(length), "false true");
    }

    private static void appending() {
        Driver d = new Driver();
        for (int length = 20; length <= 700; length += 20) {
            due("append up to 700", d.core.append(-1, 0x7fffffff, 0x80000000, 1, 0), length);
        }
        stays("700 and 20", d, -1, () -> d.core.append(0, 0, 0, 0, 0));
        buffer("still 700", d.core, 700);
        for (int length = 699; length > 680; length--) {
            d.core.truncate(length);
            stays(length + " and 20", d, -1, () -> d.core.append(-1, -1, -1, -1, -1));
            buffer("still " + length, d.core, length);
        }
        d.core.truncate(680);
        due("680 and 20", d.core.append(0, 0, 0, 0, 0), 700);
        d.core.truncate(0);
        due("0 and 20", d.core.append(0, 0, 0, 0, 0), 20);
        buffer("20", d.core, 20);
    }

    private static void bytes() {
        ShellCore x = new ShellCore();
        due("append", x.append(0x00017f80, 0xffb0090d, 0x20212223, 0x80000000, 0x7fffffff), 20);
        due("a line", x.type(), 1);
        x.append('c' << 24 | 'a' << 16 | 't' << 8 | ';', 0, 0, 0, 0);
        x.truncate(4);
        x.load();
        x.run();
        due("20 bytes", x.formatOutput(0), 20);
        int[] due = {0, 1, 127, 128, 255, 176, 9, 13, 32, 33, 34, 35, 128, 0, 0, 0, 127, 255, 255, 255};
        for (int i = 0; i < 20; i++) {
            due("byte " + i, x.formattedByte(i), due[i]);
        }
        due("no byte 20", x.formattedByte(20), -1);
    }

    private static void refusedAppend() {
        Driver d = new Driver();
        d.fill(repeat(" ", 676) + "echo a b;");
        due("685 and 20", d.core.append(-1, -1, -1, -1, -1), -1);
        due("nothing was appended", d.core.load() + " " + d.core.run() + d.outputs(), "1 0/a b");
        d.fill("echo a b;");
        due("cut and appended", d.core.truncate(6) + " " + d.core.append('c' << 24 | ';' << 16 | 32 << 8 | 32, 0x20202020, 0x20202020,
            0x20202020, 0x20202020), "true 26");
        due("behind the first bytes", d.core.load() + " " + d.core.run() + d.outputs(), "1 0/a b/ac");
    }

    private static void truncating() {
        Driver d = new Driver();
        for (int length : new int[] {1, 20, 700, -1, Integer.MIN_VALUE, Integer.MAX_VALUE}) {
            stays("an empty buffer to " + length, d, false, () -> d.core.truncate(length));
        }
        due("0 to 0", d.core.truncate(0), true);
        d.fill("echo a;");
        for (int length : new int[] {8, 700, -1, -7, Integer.MIN_VALUE, Integer.MAX_VALUE}) {
            stays("7 to " + length, d, false, () -> d.core.truncate(length));
        }
        due("7 to 7", d.core.truncate(7) + " " + d.core.load() + d.core.run() + d.outputs(), "true 10/a");
        d.fill("echo a;b");
        due("8 to 7", d.core.truncate(7) + " " + d.core.load() + d.core.run() + d.outputs(), "true 10/a/a");
        d.fill("echo a;b");
        due("8 to 1 to 0", d.core.truncate(1) + " " + d.core.truncate(2) + " " + d.core.truncate(0) + " " + d.core.truncate(1) + d.core.load(),
            "true false true false0");
    }

    // ---- the text

    private static void textsOf700Bytes() {
        accepts(repeat(" ", 698) + "a;", 1);
        accepts("a;" + repeat("\n", 698), 1);
        accepts(repeat("\t", 700), 0);
        refuses(repeat("\t", 699) + "a", SYNTAX, 700);
        refuses(repeat(" ", 688) + TWELVE, SYNTAX, 700);
        refuses(repeat(" ", 687) + THIRTEEN, TOO_LONG, 687);
        refuses(repeat(" ", 699) + ".", SYNTAX, 699);
        refuses(repeat(" ", 694) + "((((((", TOO_DEEP, 699);
        refuses(repeat("a;", 349) + "a", SYNTAX, 699);
        refuses(repeat("a;", 349) + "a ", SYNTAX, 700);
        refuses("a" + repeat("|a", 349) + "|", SYNTAX, 700);
        refuses(repeat("z", 700), TOO_LONG, 0);
        refuses(repeat("(", 700), TOO_DEEP, 5);
        refuses(repeat("!", 700), SYNTAX, 1);
        refuses(repeat("&", 700), SYNTAX, 0);
        refuses("a" + repeat(">", 699), SYNTAX, 3);
        refuses("a" + repeat("$", 699), SYNTAX, 2);
    }

    /** Runs a text as full as 700 bytes can be. */
    private static Driver full(String text, int chains, int status, int begun, int forks) {
        Driver d = new Driver();
        due("length of " + text, text.length() >= 690 && text.length() <= 700, true);
        due("load of " + text, d.load(text), chains);
        due("run of " + text, d.core.run() + " " + d.core.begun() + " " + d.core.forks(), status + " " + begun + " " + forks);
        return d;
    }

    private static void manyParts() {
        due("347 arguments", full("echo" + repeat(" 1", 347) + ";", 1, 0, 1, 0).outputs(), "/" + repeat("1 ", 40));
        due("347 arguments of a status", full("echo" + repeat("$?", 347) + ";", 1, 0, 1, 0).outputs(), "/" + repeat("0 ", 40));
        due("231 variables", full("echo" + repeat("$ a", 231) + ";", 1, 0, 1, 0).outputs(), "/" + repeat(" ", 80));
        full("f" + repeat(" " + TWELVE, 53) + repeat(" 1", 4) + ";", 1, 127, 1, 0);
        full("true" + repeat(" 1", 347) + ";", 1, 0, 1, 0);
        full("cat" + repeat(" 1", 348) + ";", 1, 2, 1, 0);
        due("347 redirections", full("true" + repeat(">p", 347) + ";", 1, 0, 1, 0).core.fileCount(), 1);
        due("the last one fails", full("true" + repeat(">p", 346) + "<q;", 1, 1, 1, 0).handles(), "ttt.......");
        due("172 handles", full("exec" + repeat(" 3>p 4>q", 86) + ";", 1, 0, 1, 0).handles(), "tttww.....");
        due("231 closed", full("exec" + repeat("<&-", 231) + ";", 1, 0, 1, 0).handles(), ".tt.......");
        full("{}" + repeat("|{}", 232) + ";", 1, 0, 233, 233);
        full("()" + repeat("|()", 232) + ";", 1, 0, 233, 466);
        full("!a" + repeat("|a", 298) + repeat(" ", 98) + ";", 1, 0, 299, 299);
        full("a" + repeat("||a", 232) + ";", 1, 127, 233, 0);
        full("a" + repeat("&&a", 232) + ";", 1, 127, 1, 0);
        full(repeat("!a;", 233), 233, 0, 233, 0);
        full(repeat("();", 233), 233, 0, 233, 233);
        full(repeat("x=1;", 175), 175, 0, 175, 0);
        due("342 jobs refused", full(repeat("a&", 350), 350, 1, 8, 8).core.jobCount(), 8);
        due("50 commands stop", full(repeat("a;", 350), 350, 127, 300, 0).core.isStopped(), true);
        due("one pipeline that stops", full("a" + repeat("|a", 349) + ";", 1, 0, 300, 301).core.isStopped(), true);
        full(repeat("def f{};", 87), 87, 0, 87, 0);
        full(repeat("if a;then b;else c;fi;", 31) + "x = 1;  ", 32, 0, 94, 0);
        full(repeat("while a;do b;done;", 38) + "x = 1;", 39, 0, 77, 0);
    }

    /** Texts that make as much code as 700 bytes can, and many such texts one behind the other on one object. */
    private static void fullTextsAgain() {
        Driver d = full(repeat("b|b&", 174) + "x=1;", 175, 0, 17, 24);
        due("the last command", d.variable("x") + d.core.jobCount() + d.core.isStopped() + d.core.traceCount(), "18false17");
        String[] texts = {repeat("!a;", 233), "echo" + repeat(" 1", 347) + ";", "true" + repeat(">p", 347) + ";", repeat("b|b&", 174) + "x=1;",
            repeat("a", 13), "(" + repeat("a|", 349), repeat("x=1;", 175), "echo $?" + repeat("<&-", 230) + ";"};
        Driver e = new Driver();
        int wrong = 0;
        for (int i = 0; i < 5; i++) {
            for (String text : texts) {
                wrong += e.load(text) < 0 ? 1 : 0;
            }
        }
        due("refused", wrong, 10);
        due("the last of them", e.core.run() + e.outputs() + e.handles(), "0/0ttt.......");
        due("one more", e.loadAndRun("x=1; echo $x b >p; cat <p; (exit 3;) | exit 4;") + e.outputs() + e.file("p") + e.core.forks() + e.trace(),
            "4/0/1 b/1 b3 0:0:0 5:0:0 19:0:0");
    }

    // ---- words

    private static void wordsOf12Bytes() {
        String[] behind = {"", "a ", "a $", "a $ ", "a >", "a <", "a >>", "a 3>", "x=", "x=$", "! ", "a|", "a&&", "a||", "a&", "{", "(",
            "if ", "if a;then ", "while ", "def f{", "a >p;", "a;\n", "a $x ", "a $? "};
        for (String place : behind) {
            refuses(place + THIRTEEN + ";", TOO_LONG, place.length());
            refuses(place + "0123456789012", TOO_LONG, place.length());
            refuses(place + TWELVE, SYNTAX, place.length() + 12);
        }
        accepts(TWELVE + " " + TWELVE + "$" + TWELVE + "<" + TWELVE + ">" + TWELVE + ">>" + TWELVE + " 3>" + TWELVE + ";", 1);
        accepts(TWELVE + "=" + TWELVE + ";" + TWELVE + "=$" + TWELVE + ";def " + TWELVE + "{" + TWELVE + ";}<" + TWELVE + ";", 3);
        refuses("def " + THIRTEEN, TOO_LONG, 4);
        refuses("def " + TWELVE, SYNTAX, 16);
        accepts("def " + TWELVE + "{};", 1);
        // No word can stand there at all: a longer one is too long nevertheless.
        String[] wrong = {"x=a ", "a >p ", "(a;) ", "{} ", "a >&", "a <& ", "a <&1 ", "if a; ", "if a;then fi ", "while a; ", "def f ", "def f{} "};
        for (String place : wrong) {
            refuses(place + THIRTEEN, TOO_LONG, place.length());
            refuses(place + TWELVE, SYNTAX, place.length());
        }
        refuses("a;)" + THIRTEEN, SYNTAX, 2);
        refuses("a; fi " + THIRTEEN, SYNTAX, 3);
    }

    private static void reservedWords() {
        for (String word : WORDS) {
            boolean opens = word.equals("if") || word.equals("while") || word.equals("def");
            refuses(word + "=1;", SYNTAX, opens ? word.length() : 0);
            refuses(word + ";", SYNTAX, opens ? word.length() : 0);
            refuses("def " + word + "{};", SYNTAX, 4);
            refuses("a;" + word + ">p;", SYNTAX, 2 + (opens ? word.length() : 0));
            accepts("a " + word + ">" + word + "<" + word + ">>" + word + ";", 1);
            accepts("a " + word + "$" + word + ";x=" + word + ";x=$" + word + ";" + word + "a;a" + word + "=1;", 5);
            due("a variable " + word, runsWith("l\n", "read " + word + "; echo $" + word + ";", 0, "/l").variable(word), "l");
        }
        for (String name : COMMANDS) {
            refuses("def " + name + "{};", SYNTAX, 4);
            accepts("def " + name + "a{};def a" + name + "{};" + name + "=" + name + ";" + name + " " + name + ">" + name + ";", 4);
        }
        due("a function named as a signal", runs("def hup { echo a; }; def on { }; def default { echo b; }; hup; default;", 0, "/a/b")
            .core.functionCount(), 3);
    }

    // ---- handles of redirections

    private static void handlesOfRedirections() {
        runs("echo 3>p; cat <p;", 0, "/");
        due("argument, blank", runs("echo 3 >p;", 0, "").file("p"), "/3");
        due("argument, tab", runs("echo 3\t>p;", 0, "").file("p"), "/3");
        due("two digits", runs("echo 33>p;", 0, "").file("p"), "/33");
        due("letter and digit", runs("echo a3>p;", 0, "").file("p"), "/a3");
        due("a letter", runs("echo a>p;", 0, "").file("p"), "/a");
        due("name", runs("3=k; echo $3>p;", 0, "").file("p"), "/k");
        due("name with a blank before", runs("3=k; echo $ 3>p;", 0, "").file("p"), "/k");
        due("value of an assignment", runs("x=3>p;", 0, "").variable("x"), "3");
        due("behind that value", runs("x=3 4>p;", 0, "").core.fileCount(), 1);
        runs("echo 3<p; echo $?; echo 3> p; echo 1>&0; echo 1 >&0;", 0, "/1///1");
        refuses("echo 3> p 4;", SYNTAX, 10);
        refuses("echo >p 4 >q;", SYNTAX, 8);
        refuses("{} 3 >p;", SYNTAX, 3);
        refuses("{} 33>p;", SYNTAX, 3);
        refuses("{} a>p;", SYNTAX, 3);
        refuses("{} 3=p;", SYNTAX, 3);
        refuses("a 3=p;", SYNTAX, 3);
        accepts("{} 3>p 4<p 0>>p 9<&0 5>&9;", 1);
        accepts("a>3 4>3 5>3;", 1);
        accepts("a>3>3>3;", 1);
        accepts("a>&3>&3<&-<&3>&-;", 1);
        refuses("a>&33;", SYNTAX, 3);
        refuses("a>&a;", SYNTAX, 3);
        refuses("a>&$x;", SYNTAX, 3);
        refuses("a>&--;", SYNTAX, 4);
        refuses("a>-;", SYNTAX, 2);
        refuses("a<$x;", SYNTAX, 2);
        refuses("a 3>;", SYNTAX, 4);
        refuses("3 >p 4>;", SYNTAX, 7);
        due("a function named 3", runs("def 3 { echo a; }; 3>p; 3; 3 >q;", 0, "/a").file("p"), "/a");
    }

    // ---- nesting

    private static void nesting() {
        String[] opening = {"(", "{", "if ", "if a;then ", "if a;then b;else ", "while ", "while a;do ", "def f{", "!(", "a|{", "a&&(",
            "a||{", "b;(", "b&{", "(a;)|(", "if a||b;then ", "while a;do b;"};
        String[] closing = {")", "}", ";then b;fi", "fi", "fi", ";do b;done", "done", "}", ")", "}", ")", "}", ")", "}", ")", "fi", "done"};
        String[] sixth = {"(", "{", "if", "while", "def"};
        String[] behind = {"", "! ", "a|", "!a|", "a&&", "a||", "a&&!a|"};
        for (int i = 0; i < opening.length; i++) {
            String five = repeat(opening[i], 5);
            boolean chain = closing[i].startsWith(";");
            String end = chain ? repeat(closing[i], 5) + ";" : ";" + repeat(closing[i] + ";", 5);
            int chains = opening[i].startsWith("b") ? 2 : 1;
            accepts(five + "a" + end, chains);
            refuses(five, SYNTAX, five.length());
            for (String body : sixth) {
                refuses(five + body, TOO_DEEP, five.length());
                refuses(five + " " + body + " a;", TOO_DEEP, five.length() + 1);
            }
            for (String before : behind) {
                refuses(five + before + "{", TOO_DEEP, five.length() + before.length());
            }
            // Behind the chain of an "if" or a "while", no body can stand.
            refuses(five + "a;{", chain ? SYNTAX : TOO_DEEP, five.length() + 2);
            refuses(five + "a&{", chain ? SYNTAX : TOO_DEEP, five.length() + (chain ? 1 : 2));
        }
    }

    private static void nestingOfMixedBodies() {
        accepts("if while (def f { { a; }; };); do b; done; then c; fi;", 1);
        refuses("if while (def f { { { a; }; }; };); do b; done; then c; fi;", TOO_DEEP, 20);
        refuses("if while (def f { { (a;); }; };); do b; done; then c; fi;", TOO_DEEP, 20);
        accepts("{{{{{};{};};{{};};};{{{};};};};{{{{};};};};};{{{{{};};};};};", 2);
        refuses("{{{{{};{{};};};{{};};};};};", TOO_DEEP, 8);
        // At the sixth, other tokens are as wrong or as right as elsewhere.
        refuses("{{{{{ }}", SYNTAX, 7);
        refuses("{{{{{ a(", SYNTAX, 7);
        refuses("{{{{{ a {", SYNTAX, 8);
        refuses("{{{{{ then", SYNTAX, 6);
        refuses("{{{{{ )", SYNTAX, 6);
        refuses("{{{{{ x=(", SYNTAX, 8);
        refuses("{{{{{ " + THIRTEEN, TOO_LONG, 6);
        refuses("{{{{{{" + THIRTEEN, TOO_DEEP, 5);
        accepts("{{{{{ a if while def >if 3>def;};};};};};", 1);
        accepts("{{{{{ x=if;y=$if;};};};};};", 1);
        accepts("{{{{{ a <p|b >p&&!c||d&e;} >p;};};};};", 1);
        refuses("def f{def g{def h{def k{def l{def m{", TOO_DEEP, 30);
        refuses("def f{def g{def h{def k{def l{ifa;if", TOO_DEEP, 34);
        refuses("if if if if if a;then b;fi;then b;fi;then b;fi;then b;fi;then b;(", SYNTAX, 65);
        accepts("if if if if if a;then b;fi;then b;fi;then b;fi;then b;fi;then {{{{};};};};fi;", 1);
        refuses("if if if if if a;then b;fi;then b;fi;then b;fi;then b;fi;then {{{{{", TOO_DEEP, 66);
    }

    // ---- errors at every place of a text

    /** The parts of a text with everything that the grammar has; between any two of them something else can come. */
    private static final String[] PARTS = {"a", "b", "$", "x", "$", "?", "3", "<", "p", "4>", "q", ">>", "r", "5<&", "6", ">&", "-", ";", "!", "x",
        "=", "y", ">", "p", "|", "y", "=", "$", "x", "|", "(", "c", "&&", "!", "d", "||", "e", "&", "f", ";", ")", ">", "p", "<&", "-", "&", "{", "}",
        ">>", "q", "&&", "if", "a", "||", "b", ";", "then", "c", ";", "else", "d", "&", "fi", "<", "p", "|", "while", "a", "&&", "b", ";", "do",
        "c", ";", "done", ">", "p", ";", "def", "f", "{", "a", ";", "(", ")", "&", "}", "<", "p", ";", "if", "(", ")", ";", "then", "fi", ";",
        "while", "{", "}", ";", "do", "done", "&"};

    private static void everyPlace() {
        StringBuilder text = new StringBuilder();
        for (String part : PARTS) {
            checkPlace(text.toString());
            text.append(part).append(' ');
        }
        accepts(text.toString(), 6);
        accepts(text.toString().replace(" ", "\n\t "), 6);
        refuses(text + ";", SYNTAX, text.length());
        refuses(text + "\0", SYNTAX, text.length());
    }

    /** Whether a text of PARTS up to there is itself right; otherwise it ends too early. */
    private static void checkPlace(String start) {
        int at = start.length();
        Driver d = new Driver();
        if (d.load(start) < 0) {
            due("ends too early: " + start, d.core.errorKind() + " at " + d.core.errorOffset(), SYNTAX + " at " + at);
        } else {
            due("ends rightly: " + start, start.isEmpty() || start.endsWith("; ") || start.endsWith("& "), true);
        }
        refuses(start + THIRTEEN, TOO_LONG, at);
        for (char wrong : new char[] {'A', 'Z', '\r', '\0', '"', '.', '@', '`', '/', ':', '[', '\u00a0', '\u00e9', '\u00ff', '\u000b', '#', '*'}) {
            refuses(start + wrong + "a;", SYNTAX, at);
        }
    }

    private static void firstWrongByte() {
        refuses(";", SYNTAX, 0);
        refuses("a;;", SYNTAX, 2);
        refuses("a&;", SYNTAX, 2);
        refuses("a;&", SYNTAX, 2);
        refuses("a&&;", SYNTAX, 3);
        refuses("a&& &b;", SYNTAX, 4);
        refuses("a&&&b;", SYNTAX, 3);
        refuses("a||||b;", SYNTAX, 3);
        refuses("a|;", SYNTAX, 2);
        refuses("a| |b;", SYNTAX, 3);
        refuses("a|&b;", SYNTAX, 2);
        refuses("a&|b;", SYNTAX, 2);
        refuses("a >> >p;", SYNTAX, 5);
        refuses("a > >p;", SYNTAX, 4);
        refuses("a >&& b;", SYNTAX, 4);
        refuses("a > &1;", SYNTAX, 4);
        refuses("a < &1;", SYNTAX, 4);
        refuses("a <<p;", SYNTAX, 3);
        refuses("a <>p;", SYNTAX, 3);
        refuses("a ><p;", SYNTAX, 3);
        refuses("a >>&1;", SYNTAX, 4);
        refuses("a >|p;", SYNTAX, 3);
        refuses("?;", SYNTAX, 0);
        refuses("a ?;", SYNTAX, 2);
        refuses("a $ $x;", SYNTAX, 4);
        refuses("a $-;", SYNTAX, 3);
        refuses("$x;", SYNTAX, 0);
        refuses("$x=1;", SYNTAX, 0);
        refuses("x=$;", SYNTAX, 3);
        refuses("x==1;", SYNTAX, 2);
        refuses("x=-;", SYNTAX, 2);
        refuses("x=(;", SYNTAX, 2);
        refuses("x=$y z;", SYNTAX, 5);
        refuses("x=y=z;", SYNTAX, 3);
        refuses("=1;", SYNTAX, 0);
        refuses("a - b;", SYNTAX, 2);
        refuses(")", SYNTAX, 0);
        refuses("(})", SYNTAX, 1);
        refuses("{)", SYNTAX, 1);
        refuses("(a)", SYNTAX, 2);
        refuses("{a}", SYNTAX, 2);
        refuses("(a;", SYNTAX, 3);
        refuses("(a;)", SYNTAX, 4);
        refuses("(a;)(b;);", SYNTAX, 4);
        refuses("(a;)b;", SYNTAX, 4);
        refuses("a(b;);", SYNTAX, 1);
        refuses("!;", SYNTAX, 1);
        refuses("!", SYNTAX, 1);
        refuses("a!;", SYNTAX, 1);
        refuses("a|!b;", SYNTAX, 2);
        accepts("!a;a&&!b;a||!b;", 3);
        refuses("if;", SYNTAX, 2);
        refuses("if a;b;then c;fi;", SYNTAX, 5);
        refuses("if a&then c;fi;", SYNTAX, 4);
        refuses("if a then c;fi;", SYNTAX, 12);
        refuses("if a;then c fi;", SYNTAX, 15);
        refuses("if a;then c;else d;else e;fi;", SYNTAX, 19);
        refuses("if a;else c;fi;", SYNTAX, 5);
        refuses("if a;do c;fi;", SYNTAX, 5);
        refuses("if a;fi;", SYNTAX, 5);
        refuses("if a;then c;fi", SYNTAX, 14);
        refuses("while a;then b;done;", SYNTAX, 8);
        refuses("while a;do b;else c;done;", SYNTAX, 13);
        refuses("while a;do b;fi;", SYNTAX, 13);
        refuses("while a;done;", SYNTAX, 8);
        refuses("def f a;", SYNTAX, 6);
        refuses("def f(a;);", SYNTAX, 5);
        refuses("def f{a;);", SYNTAX, 8);
        refuses("def $f{};", SYNTAX, 4);
        refuses("def;", SYNTAX, 3);
        refuses("def", SYNTAX, 3);
        refuses("a b", SYNTAX, 3);
        refuses("a b \n\t ", SYNTAX, 7);
        refuses("a >", SYNTAX, 3);
        refuses("a 3>", SYNTAX, 4);
        refuses("a >&", SYNTAX, 4);
        refuses("x=", SYNTAX, 2);
        refuses("x=$", SYNTAX, 3);
    }

    // ---- load

    private static void refusedLoad() {
        Driver d = runsWith("l\n", "x=k; def f { echo a; }; trap f int; trap ignore hup; set pipefail on; exec 3>p 4<p 1>&-; a & false;", 1, "");
        d.core.undo();
        d.core.run();
        String before = d.everything().replaceAll(" error.*", "");
        String[] wrong = {"a", "(", "((((((", THIRTEEN, "\0"};
        String[] error = {"1 1", "1 1", "2 5", "3 0", "1 0"};
        for (int i = 0; i < wrong.length; i++) {
            String text = wrong[i];
            d.fill(text);
            throwing("load of " + text, ARGUMENT, () -> d.core.load());
            due("the error of " + text, d.core.errorKind() + " " + d.core.errorOffset(), error[i]);
            due("everything stays", d.everything().replaceAll(" error.*", ""), before);
            due("the buffer is empty", d.core.truncate(1), false);
        }
        due("the script stays", d.core.run() + " " + d.core.begun() + " " + d.core.errorKind(), "1 8 1");
        due("undo, too", d.core.undoDepth() + " " + d.core.undo() + d.core.undo(), "2 10");
        due("an empty text", d.load("") + " " + d.core.errorKind() + " " + d.core.errorOffset(), "0 0 -1");
        due("the error is away", d.core.run() + " " + d.core.begun() + d.handles(), "0 0ttt.......");
        Driver e = runs("exit 3& x=1; def f{}; trap f hup; trap ignore exit; set pipefail on; exec 3>p; (true; while true; do true; done;);", 0, "");
        due("before a load", e.core.jobCount() + " " + e.core.isStopped() + e.core.begun() + " " + e.core.forks() + e.core.traceCount(),
            "1 true300 260");
        e.load("x=2;");
        due("as if there was no run", e.core.jobCount() + " " + e.core.jobStatus(1) + e.core.isStopped() + e.core.begun() + e.core.forks()
            + e.core.traceCount() + e.core.failures() + e.core.status() + e.core.undoDepth(), "0 -1false000000");
        due("anew", e.handles() + e.core.variableCount() + e.core.functionCount() + e.core.isPipefail() + e.core.actionOf(0)
            + e.core.actionOf(3) + e.core.isSet(24), "ttt.......00false00false");
        stays("nothing can be undone", e, -1, () -> e.core.undo());
        due("refused twice", d.load("a") + " " + d.load("((((((") + " " + d.core.errorKind() + d.core.errorOffset(), "-1 -1 25");
    }

    private static void countsOfChains() {
        accepts("", 0);
        accepts("a;", 1);
        accepts("a&", 1);
        accepts("a&&b||c|d;", 1);
        accepts("{a;b;c&};", 1);
        accepts("(a;b;);if a;then b;c;else d;fi;while a;do b;c;done&def f{a;b;};", 4);
        accepts(repeat("a;", 350), 350);
    }

    public static void main(String[] args) {
        appending();
        bytes();
        refusedAppend();
        truncating();
        textsOf700Bytes();
        manyParts();
        fullTextsAgain();
        wordsOf12Bytes();
        reservedWords();
        handlesOfRedirections();
        nesting();
        nestingOfMixedBodies();
        everyPlace();
        firstWrongByte();
        refusedLoad();
        countsOfChains();
        end();
    }
}
