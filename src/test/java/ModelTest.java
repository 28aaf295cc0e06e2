import java.util.ArrayList;
import java.util.List;
import java.util.Map;

/** Runs of calls on a ShellCore and on the model of the document; every answer has to be the same. */
public final class ModelTest {
    private static final String LETTERS = ".trwa";

    private static int wrong;
    private static int refused;
    private static int stopped;
    private static int jobs;
    private static int runs;

    private static void same(String what, Object got, Object want, List<String> calls) {
        if (!String.valueOf(got).equals(String.valueOf(want)) && wrong < 5) {
            wrong++;
            System.out.println(what + " answered " + got + ", due is " + want + " after");
            for (String call : calls) {
                System.out.println("    " + call);
            }
        }
    }

    private static long action(String action) {
        return action.equals("default") ? 0 : action.equals("ignore") ? -2 : Driver.name(action);
    }

    private static String answers(Model m) {
        Model.State now = m.now;
        StringBuilder s = new StringBuilder();
        s.append(now.main.status).append(now.stopped).append(" begun ").append(now.begun).append(" forks ").append(now.forks);
        s.append(" jobs ").append(now.main.jobs.size());
        for (int i = 0; i <= 9; i++) {
            s.append(' ').append(i < 1 || i > now.main.jobs.size() ? -1 : now.main.jobs.get(i - 1).status);
        }
        s.append(" undo ").append(m.past.size()).append(' ');
        StringBuilder kinds = new StringBuilder();
        for (int i = 0; i < 10; i++) {
            Model.Open open = now.main.handles[i];
            s.append(open == null ? '.' : open.kind);
            kinds.append(LETTERS.indexOf(open == null ? '.' : open.kind));
        }
        s.append(kinds);
        s.append(" set ").append(now.main.variables.size()).append(" def ").append(now.main.functions.size());
        s.append(' ').append(now.main.pipefail);
        for (int i = 0; i < 4; i++) {
            s.append(' ').append(action(now.main.actions[i]));
        }
        s.append(" in ").append(now.input.size()).append(" out ");
        for (String line : now.output) {
            s.append('/').append(line);
        }
        for (Map.Entry<String, List<String>> e : now.files.entrySet()) {
            s.append(" file ").append(e.getKey()).append(true);
            for (String line : e.getValue()) {
                s.append('/').append(line);
            }
        }
        s.append(" trace");
        int failures = 0;
        for (int[] r : now.trace) {
            s.append(' ').append(r[0]).append(':').append(r[1]).append(':').append(r[2]);
            failures += r[1] != 0 ? 1 : 0;
        }
        s.append(" failures ").append(failures);
        s.append(" error ").append(m.errorKind).append(' ').append(m.errorOffset);
        return s.toString();
    }

    private static void compareNames(Driver d, Model m, List<String> calls) {
        List<String> names = new ArrayList<>(m.now.main.variables.keySet());
        for (String name : Texts.VARIABLES) {
            names.add(name);
        }
        for (String name : names) {
            same("variable " + name, d.variable(name), m.now.main.variables.get(name), calls);
            same("isSet " + name, d.core.isSet(Driver.name(name)), m.now.main.variables.containsKey(name), calls);
        }
        for (String name : Texts.FUNCTIONS) {
            same("isDefined " + name, d.core.isDefined(Driver.name(name)), m.now.main.functions.containsKey(name), calls);
        }
    }

    private static void play(long seed) {
        Texts texts = new Texts(seed);
        Driver d = new Driver();
        Model m = new Model();
        List<String> calls = new ArrayList<>();
        int turns = 4 + texts.below(24);
        for (int i = 0; i < turns && wrong < 5; i++) {
            String call = call(texts, d, m, calls);
            same(call, d.state(), answers(m), calls);
            compareNames(d, m, calls);
        }
    }

    private static String call(Texts texts, Driver d, Model m, List<String> calls) {
        int kind = texts.below(12);
        if (kind < 3) {
            String script = texts.script();
            calls.add("load " + script);
            same("load", d.load(script), m.load(script), calls);
            return "after load";
        }
        if (kind < 4) {
            String script = texts.broken();
            calls.add("load " + script);
            int chains = m.load(script);
            refused += chains < 0 ? 1 : 0;
            same("load", d.load(script), chains, calls);
            return "after load";
        }
        if (kind < 6) {
            String lines = typed(texts);
            calls.add("type " + lines);
            same("type", d.type(lines), m.type(lines), calls);
            return "after type";
        }
        if (kind < 8 && calls.size() > 2) {
            calls.add("undo");
            same("undo", d.core.undo(), m.undo(), calls);
            return "after undo";
        }
        calls.add("run");
        same("run", d.core.run(), m.run(), calls);
        runs++;
        stopped += m.now.stopped ? 1 : 0;
        jobs += m.now.main.jobs.size();
        return "after run";
    }

    private static String typed(Texts texts) {
        StringBuilder lines = new StringBuilder();
        for (int i = texts.below(5); i > 0; i--) {
            for (int k = texts.below(texts.below(9) == 0 ? 100 : 8); k > 0; k--) {
                lines.append((char) (texts.below(9) == 0 ? 200 + texts.below(56) : 'a' + texts.below(26)));
            }
            if (i > 1 || texts.below(2) == 0) {
                lines.append('\n');
            }
        }
        return lines.toString();
    }

    public static void main(String[] args) {
        long from = args.length > 0 ? Long.parseLong(args[0]) : 1;
        long count = args.length > 1 ? Long.parseLong(args[1]) : 20000;
        for (long seed = from; seed < from + count && wrong < 5; seed++) {
            play(seed);
        }
        System.out.println(runs + " runs, " + stopped + " stopped, " + jobs + " jobs, " + refused + " texts refused");
        System.out.println(wrong == 0 ? "all answers are as due" : "answers are not as due");
        if (wrong != 0) {
            System.exit(1);
        }
    }
}
