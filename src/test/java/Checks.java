/** What the tests share: answers are compared with those that are due, and scripts are run on new objects. */
abstract class Checks {
    static final String OUT_OF_BOUNDS = "IndexOutOfBoundsException";
    static final String ARGUMENT = "IllegalArgumentException";

    private static int wrong;

    interface Call {
        Object answer();
    }

    static void due(String what, Object got, Object want) {
        if (!String.valueOf(got).equals(String.valueOf(want))) {
            wrong++;
            System.out.println(what + ": answered " + got + ", due is " + want);
        }
    }

    private static Object answer(Call call) {
        try {
            return call.answer();
        } catch (RuntimeException e) {
            return e.getClass().getSimpleName();
        }
    }

    /** A call that is refused: what it answers or throws, and that nothing that can be asked for has changed. */
    static void stays(String what, Driver d, Object want, Call call) {
        String before = d.everything();
        String text = d.text();
        due(what, answer(call), want);
        due(what + ": the formatted text", d.text(), text);
        due(what + ": everything else", d.everything(), before);
    }

    static void throwing(String what, String name, Call call) {
        try {
            due(what, call.answer(), "throws." + name);
        } catch (RuntimeException e) {
            due(what, e.getClass().getSimpleName(), name);
        }
    }

    /** Runs a script on a new object; what is due is the status and all output lines. */
    static Driver runs(String script, int status, String outputs) {
        return runsWith("", script, status, outputs);
    }

    static Driver runsWith(String input, String script, int status, String outputs) {
        Driver d = new Driver();
        d.type(input);
        due("run of " + script, d.loadAndRun(script) + d.outputs(), status + outputs);
        return d;
    }

    static void refuses(String text, int kind, int offset) {
        Driver d = new Driver();
        due("load of " + text, d.load(text), -1);
        due("error of " + text, d.core.errorKind() + " at " + d.core.errorOffset(), kind + " at " + offset);
    }

    static void accepts(String text, int chains) {
        Driver d = new Driver();
        due("load of " + text, d.load(text), chains);
        due("error of " + text, d.core.errorKind() + " at " + d.core.errorOffset(), "0 at -1");
    }

    static String repeat(String part, int times) {
        StringBuilder text = new StringBuilder();
        for (int i = 0; i < times; i++) {
            text.append(part);
        }
        return text.toString();
    }

    /** Says how many answers were wrong; ends the program with 1 if there was one. */
    static void end() {
        System.out.println(wrong == 0 ? "all answers are as due" : wrong + " answers are not as due");
        if (wrong != 0) {
            System.exit(1);
        }
    }
}
