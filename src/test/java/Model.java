import java.util.ArrayDeque;
import java.util.ArrayList;
import java.util.Arrays;
import java.util.HashSet;
import java.util.IdentityHashMap;
import java.util.LinkedHashMap;
import java.util.List;
import java.util.Map;
import java.util.Set;

/** The document once more, written in another way: a tree that executes itself, with collections and exceptions. */
final class Model {
    static final Set<String> RESERVED = new HashSet<>(Arrays.asList("if", "then", "else", "fi", "while", "do", "done", "def"));
    static final Set<String> COMMANDS = new HashSet<>(Arrays.asList("true", "false", "echo", "read", "cat", "exec", "exit",
            "trap", "raise", "set", "wait", "fg"));
    static final List<String> SIGNALS = Arrays.asList("hup", "int", "term", "exit");

    static final class Refused extends RuntimeException {
        private static final long serialVersionUID = 1L;
        final int kind;
        final int offset;

        Refused(int kind, int offset) {
            this.kind = kind;
            this.offset = offset;
        }
    }

    static final class Ended extends RuntimeException {
        private static final long serialVersionUID = 1L;
    }

    static final class Stopped extends RuntimeException {
        private static final long serialVersionUID = 1L;
    }

    interface Node {
        void in(Shell shell);
    }

    // ---- what there is

    static final class Open {
        char kind;
        List<String> file;
        int position;
        ArrayDeque<String> pipe;

        Open(char kind) {
            this.kind = kind;
        }
    }

    static final class Job {
        Shell shell;
        Node chain;
        boolean run;
        int status = -1;
    }

    static final class Shell {
        Map<String, String> variables = new LinkedHashMap<>();
        Map<String, Node> functions = new LinkedHashMap<>();
        String[] actions = {"default", "default", "default", "default"};
        Open[] handles = new Open[10];
        boolean pipefail;
        boolean background;
        int status;
        int depth;
        int nesting;
        int first;
        List<Job> jobs = new ArrayList<>();
    }

    static final class State {
        Map<String, List<String>> files = new LinkedHashMap<>();
        ArrayDeque<String> input = new ArrayDeque<>();
        List<String> output = new ArrayList<>();
        Shell main = new Shell();
        List<int[]> trace = new ArrayList<>();
        int begun;
        int forks;
        boolean stopped;

        State copy() {
            State copy = new State();
            Map<List<String>, List<String>> lists = new IdentityHashMap<>();
            for (Map.Entry<String, List<String>> e : files.entrySet()) {
                List<String> list = new ArrayList<>(e.getValue());
                lists.put(e.getValue(), list);
                copy.files.put(e.getKey(), list);
            }
            copy.input.addAll(input);
            copy.output.addAll(output);
            copy.trace.addAll(trace);
            copy.begun = begun;
            copy.forks = forks;
            copy.stopped = stopped;
            copy.main.variables.putAll(main.variables);
            copy.main.functions.putAll(main.functions);
            copy.main.actions = main.actions.clone();
            copy.main.pipefail = main.pipefail;
            copy.main.status = main.status;
            copy.main.jobs.addAll(main.jobs);
            Map<Open, Open> opens = new IdentityHashMap<>();
            for (int i = 0; i < 10; i++) {
                Open o = main.handles[i];
                if (o != null && !opens.containsKey(o)) {
                    Open twin = new Open(o.kind);
                    twin.file = o.file == null ? null : lists.get(o.file);
                    twin.position = o.position;
                    opens.put(o, twin);
                }
                copy.main.handles[i] = o == null ? null : opens.get(o);
            }
            return copy;
        }
    }

    State now = new State();
    final List<State> past = new ArrayList<>();
    Node script = shell -> shell.status = 0;
    int errorKind;
    int errorOffset = -1;

    Model() {
        anew();
    }

    private void anew() {
        now.main = new Shell();
        Open terminal = new Open('t');
        Arrays.fill(now.main.handles, 0, 3, terminal);
        now.trace.clear();
        now.begun = 0;
        now.forks = 0;
        now.stopped = false;
        past.clear();
    }

    private void remember() {
        past.add(now.copy());
        if (past.size() > 6) {
            past.remove(0);
        }
    }

    int undo() {
        if (past.isEmpty()) {
            return -1;
        }
        now = past.remove(past.size() - 1);
        return past.size();
    }

    static String cut(String line) {
        return line.length() > 80 ? line.substring(0, 80) : line;
    }

    int type(String text) {
        List<String> lines = new ArrayList<>(Arrays.asList(text.split("\n", -1)));
        if (lines.get(lines.size() - 1).isEmpty()) {
            lines.remove(lines.size() - 1);
        }
        if (now.input.size() + lines.size() > 40) {
            return -1;
        }
        remember();
        for (String line : lines) {
            now.input.add(cut(line));
        }
        return now.input.size();
    }

    int load(String text) {
        try {
            Reader reader = new Reader(text);
            List<Node> chains = reader.script(0);
            reader.need(reader.kind() == Reader.END);
            script = reader.sequence(chains);
            errorKind = 0;
            errorOffset = -1;
            anew();
            return chains.size();
        } catch (Refused e) {
            errorKind = e.kind;
            errorOffset = e.offset;
            return -1;
        }
    }

    int run() {
        remember();
        Shell main = now.main;
        now.begun = 0;
        now.forks = 0;
        now.stopped = false;
        now.trace.clear();
        main.jobs = new ArrayList<>();
        main.nesting = 0;
        main.first = 0;
        Open[] handles = main.handles.clone();
        try {
            live(main, script);
        } catch (Stopped e) {
            now.stopped = true;
            main.handles = handles;
        }
        return main.status;
    }

    // ---- shells

    private void live(Shell shell, Node what) {
        try {
            what.in(shell);
        } catch (Ended e) {
            // its status is set
        }
        shell.nesting = shell.first;
        String action = shell.actions[3];
        if (!action.equals("default") && !action.equals("ignore")) {
            shell.actions[3] = "default";
            int status = shell.status;
            try {
                callForTrap(shell, action);
                shell.status = status;
            } catch (Ended e) {
                // the status of this end counts
            }
            shell.nesting = shell.first;
        }
        waitAll(shell);
    }

    private void waitAll(Shell shell) {
        for (int i = 0; i < shell.jobs.size(); i++) {
            if (!shell.jobs.get(i).run) {
                runJob(shell.jobs.get(i), true);
            }
        }
    }

    private void runJob(Job job, boolean background) {
        job.run = true;
        job.shell.background = background;
        live(job.shell, job.chain);
        job.status = job.shell.status;
    }

    private Shell fork(Shell maker) {
        now.forks++;
        Shell shell = new Shell();
        shell.variables.putAll(maker.variables);
        shell.functions.putAll(maker.functions);
        for (int i = 0; i < 4; i++) {
            shell.actions[i] = maker.actions[i].equals("ignore") ? "ignore" : "default";
        }
        shell.handles = maker.handles.clone();
        shell.pipefail = maker.pipefail;
        shell.background = maker.background;
        shell.status = maker.status;
        shell.depth = maker.depth + 1;
        shell.nesting = maker.nesting;
        shell.first = maker.nesting;
        return shell;
    }

    private boolean callForTrap(Shell shell, String name) {
        Node body = shell.functions.get(name);
        if (body == null || shell.nesting >= 4) {
            return false;
        }
        shell.nesting++;
        body.in(shell);
        shell.nesting--;
        return true;
    }

    private void end(Shell shell, int status) {
        shell.status = status;
        throw new Ended();
    }

    private boolean set(Shell shell, String name, String value) {
        if (!shell.variables.containsKey(name) && shell.variables.size() >= 20) {
            return false;
        }
        shell.variables.put(name, value);
        return true;
    }

    // ---- lines: null is the end, false is a failure

    private Object read(Shell shell) {
        Open open = shell.handles[0];
        if (open == null) {
            return false;
        }
        switch (open.kind) {
            case 't':
                if (shell.background) {
                    end(shell, 149);
                }
                return now.input.poll();
            case 'r':
                return open.position < open.file.size() ? open.file.get(open.position++) : null;
            case 'o':
                return open.pipe.poll();
            default:
                return false;
        }
    }

    private boolean write(Shell shell, String line) {
        Open open = shell.handles[1];
        if (open == null) {
            return false;
        }
        switch (open.kind) {
            case 't':
                return now.output.size() < 100 && now.output.add(line);
            case 'w':
                if (open.position >= 40) {
                    return false;
                }
                while (open.file.size() <= open.position) {
                    open.file.add("");
                }
                open.file.set(open.position++, line);
                return true;
            case 'a':
                return open.file.size() < 40 && open.file.add(line);
            case 'i':
                return open.pipe.add(line);
            default:
                return false;
        }
    }

    // ---- commands

    private static boolean isName(String text) {
        return text.matches("[a-z0-9]{1,12}");
    }

    private static boolean isNumber(String text) {
        return text.matches("[0-9]{1,5}");
    }

    private int perform(Shell shell, String name, List<String> arguments) {
        int count = arguments.size();
        String first = count > 0 ? arguments.get(0) : "";
        String second = count > 1 ? arguments.get(1) : "";
        switch (name) {
            case "true":
                return 0;
            case "false":
                return 1;
            case "echo":
                return write(shell, cut(String.join(" ", arguments))) ? 0 : 1;
            case "read": {
                if (count != 1 || !isName(first)) {
                    return 2;
                }
                Object line = read(shell);
                if (line instanceof Boolean) {
                    return 1;
                }
                return set(shell, first, line == null ? "" : (String) line) && line != null ? 0 : 1;
            }
            case "cat":
                if (count != 0) {
                    return 2;
                }
                while (true) {
                    Object line = read(shell);
                    if (line == null) {
                        return 0;
                    }
                    if (line instanceof Boolean || !write(shell, (String) line)) {
                        return 1;
                    }
                }
            case "exec":
                return count == 0 ? 0 : 2;
            case "exit":
                if (count > 1 || count == 1 && !isNumber(first)) {
                    return 2;
                }
                end(shell, count == 0 ? shell.status : Integer.parseInt(first) % 256);
                return 0;
            case "trap":
                if (count != 2 || !isName(first) || !SIGNALS.contains(second)) {
                    return 2;
                }
                shell.actions[SIGNALS.indexOf(second)] = first;
                return 0;
            case "raise": {
                if (count != 1 || !SIGNALS.subList(0, 3).contains(first)) {
                    return 2;
                }
                String action = shell.actions[SIGNALS.indexOf(first)];
                if (action.equals("default")) {
                    end(shell, first.equals("hup") ? 129 : first.equals("int") ? 130 : 143);
                } else if (!action.equals("ignore")) {
                    callForTrap(shell, action);
                }
                return 0;
            }
            case "set":
                if (count != 2 || !first.equals("pipefail") || !second.equals("on") && !second.equals("off")) {
                    return 2;
                }
                shell.pipefail = second.equals("on");
                return 0;
            case "wait":
            case "fg":
                if (count == 0 && name.equals("wait")) {
                    waitAll(shell);
                    return 0;
                }
                if (count != 1 || !isNumber(first)) {
                    return 2;
                }
                int number = Integer.parseInt(first);
                if (number < 1 || number > shell.jobs.size() || shell.jobs.get(number - 1).run) {
                    return 127;
                }
                Job job = shell.jobs.get(number - 1);
                runJob(job, name.equals("wait") || shell.background);
                return job.status;
            default:
                Node body = shell.functions.get(name);
                if (body == null) {
                    return 127;
                }
                if (shell.nesting >= 4) {
                    return 126;
                }
                shell.nesting++;
                body.in(shell);
                shell.nesting--;
                return shell.status;
        }
    }

    // ---- the grammar

    interface Redirection {
        boolean in(Shell shell);
    }

    interface Argument {
        String in(Shell shell);
    }

    final class Reader {
        static final char END = 'E';
        static final char WORD = 'W';
        static final char BAD = 'B';

        final String text;
        final List<String> tokens = new ArrayList<>();
        final List<Integer> starts = new ArrayList<>();
        int at;

        Reader(String text) {
            this.text = text;
            int i = 0;
            while (i < text.length()) {
                char c = text.charAt(i);
                if (c == ' ' || c == '\t' || c == '\n') {
                    i++;
                    continue;
                }
                int start = i;
                if (isWordByte(c)) {
                    while (i < text.length() && isWordByte(text.charAt(i))) {
                        i++;
                    }
                } else if (i + 1 < text.length() && Arrays.asList("&&", "||", ">>", "<&", ">&").contains(text.substring(i, i + 2))) {
                    i += 2;
                } else {
                    i++;
                }
                tokens.add(text.substring(start, i));
                starts.add(start);
            }
        }

        boolean isWordByte(char c) {
            return c >= 'a' && c <= 'z' || c >= '0' && c <= '9';
        }

        String token() {
            return at < tokens.size() ? tokens.get(at) : "";
        }

        int start() {
            return at < tokens.size() ? starts.get(at) : text.length();
        }

        char kind() {
            if (at >= tokens.size()) {
                return END;
            }
            if (isWordByte(token().charAt(0))) {
                return WORD;
            }
            return token().length() == 2 || ";&|!(){}<>=-$?".contains(token()) ? token().charAt(0) : BAD;
        }

        void need(boolean right) {
            if (kind() == WORD && token().length() > 12) {
                throw new Refused(3, start());
            }
            if (!right) {
                throw new Refused(1, start());
            }
        }

        void take(String wanted) {
            need(token().equals(wanted));
            at++;
        }

        String word() {
            need(kind() == WORD);
            at++;
            return tokens.get(at - 1);
        }

        boolean isHandle() {
            int behind = start() + 1;
            return kind() == WORD && token().matches("[0-9]") && behind < text.length()
                    && (text.charAt(behind) == '<' || text.charAt(behind) == '>');
        }

        Node sequence(List<Node> chains) {
            return shell -> {
                if (chains.isEmpty()) {
                    shell.status = 0;
                }
                for (Node chain : chains) {
                    chain.in(shell);
                }
            };
        }

        List<Node> script(int depth) {
            List<Node> chains = new ArrayList<>();
            while (kind() == WORD && !Arrays.asList("then", "else", "fi", "do", "done").contains(token())
                    || Arrays.asList("!", "(", "{").contains(token())) {
                Node chain = chain(depth);
                need(token().equals(";") || token().equals("&"));
                chains.add(token().equals(";") ? chain : shell -> makeJob(shell, chain));
                at++;
            }
            return chains;
        }

        void makeJob(Shell shell, Node chain) {
            if (shell.jobs.size() == 8) {
                shell.status = 1;
                return;
            }
            Job job = new Job();
            job.shell = fork(shell);
            job.chain = chain;
            shell.jobs.add(job);
            shell.status = 0;
        }

        Node chain(int depth) {
            Node chain = pipeline(depth);
            while (token().equals("&&") || token().equals("||")) {
                boolean and = token().equals("&&");
                Node before = chain;
                at++;
                Node next = pipeline(depth);
                chain = shell -> {
                    before.in(shell);
                    if (and == (shell.status == 0)) {
                        next.in(shell);
                    }
                };
            }
            return chain;
        }

        Node pipeline(int depth) {
            boolean not = token().equals("!");
            at += not ? 1 : 0;
            List<Node> commands = new ArrayList<>();
            commands.add(command(depth));
            while (token().equals("|")) {
                at++;
                commands.add(command(depth));
            }
            return shell -> {
                if (commands.size() == 1) {
                    commands.get(0).in(shell);
                } else {
                    pipe(shell, commands);
                }
                if (not) {
                    shell.status = shell.status == 0 ? 1 : 0;
                }
            };
        }

        void pipe(Shell shell, List<Node> commands) {
            ArrayDeque<String> before = null;
            int last = 0;
            int worst = 0;
            for (int i = 0; i < commands.size(); i++) {
                Shell child = fork(shell);
                if (before != null) {
                    child.handles[0] = new Open('o');
                    child.handles[0].pipe = before;
                }
                if (i < commands.size() - 1) {
                    before = new ArrayDeque<>();
                    child.handles[1] = new Open('i');
                    child.handles[1].pipe = before;
                }
                live(child, commands.get(i));
                last = child.status;
                worst = last != 0 ? last : worst;
            }
            shell.status = shell.pipefail ? worst : last;
        }

        Node command(int depth) {
            int offset = start();
            boolean[] simple = new boolean[1];
            boolean[] bareExec = new boolean[1];
            Node body = body(depth, simple, bareExec);
            List<Redirection> redirections = new ArrayList<>();
            while (isHandle() || Arrays.asList("<", ">", ">>", "<&", ">&").contains(token())) {
                redirections.add(redirection());
            }
            return shell -> {
                if (now.begun == 300) {
                    throw new Stopped();
                }
                now.begun++;
                Open[] before = shell.handles.clone();
                boolean fine = true;
                for (int i = 0; i < redirections.size() && fine; i++) {
                    fine = redirections.get(i).in(shell);
                }
                try {
                    if (fine) {
                        body.in(shell);
                    } else {
                        shell.status = 1;
                    }
                } finally {
                    if (!redirections.isEmpty() && !(bareExec[0] && fine)) {
                        shell.handles = before;
                    }
                }
                if (simple[0]) {
                    now.trace.add(new int[] {offset, shell.status, shell.depth});
                    if (now.trace.size() > 60) {
                        now.trace.remove(0);
                    }
                }
            };
        }

        Redirection redirection() {
            int given = -1;
            if (isHandle()) {
                given = Integer.parseInt(word());
            }
            String sign = token();
            at++;
            int handle = given >= 0 ? given : sign.startsWith("<") ? 0 : 1;
            if (sign.length() == 2 && sign.endsWith("&")) {
                if (token().equals("-")) {
                    at++;
                    return shell -> {
                        shell.handles[handle] = null;
                        return true;
                    };
                }
                need(token().matches("[0-9]"));
                int other = Integer.parseInt(word());
                return shell -> {
                    if (shell.handles[other] == null) {
                        return false;
                    }
                    shell.handles[handle] = shell.handles[other];
                    return true;
                };
            }
            String name = word();
            return shell -> open(shell, handle, sign, name);
        }

        boolean open(Shell shell, int handle, String sign, String name) {
            if (!now.files.containsKey(name)) {
                if (sign.equals("<") || now.files.size() == 8) {
                    return false;
                }
                now.files.put(name, new ArrayList<>());
            }
            Open open = new Open(sign.equals("<") ? 'r' : sign.equals(">") ? 'w' : 'a');
            open.file = now.files.get(name);
            if (open.kind == 'w') {
                open.file.clear();
            }
            shell.handles[handle] = open;
            return true;
        }

        void deeper(int depth) {
            if (depth == 5) {
                throw new Refused(2, start());
            }
            at++;
        }

        Node body(int depth, boolean[] simple, boolean[] bareExec) {
            need(kind() == WORD || token().equals("(") || token().equals("{"));
            switch (token()) {
                case "(": {
                    deeper(depth);
                    Node inner = sequence(script(depth + 1));
                    take(")");
                    return shell -> {
                        Shell child = fork(shell);
                        live(child, inner);
                        shell.status = child.status;
                    };
                }
                case "{": {
                    deeper(depth);
                    Node inner = sequence(script(depth + 1));
                    take("}");
                    return inner;
                }
                case "if": {
                    deeper(depth);
                    Node test = chain(depth + 1);
                    take(";");
                    take("then");
                    Node yes = sequence(script(depth + 1));
                    Node no = shell -> shell.status = 0;
                    if (token().equals("else")) {
                        at++;
                        no = sequence(script(depth + 1));
                    }
                    take("fi");
                    Node other = no;
                    return shell -> {
                        test.in(shell);
                        (shell.status == 0 ? yes : other).in(shell);
                    };
                }
                case "while": {
                    deeper(depth);
                    Node test = chain(depth + 1);
                    take(";");
                    take("do");
                    Node again = sequence(script(depth + 1));
                    take("done");
                    return shell -> {
                        int status = 0;
                        test.in(shell);
                        while (shell.status == 0) {
                            again.in(shell);
                            status = shell.status;
                            test.in(shell);
                        }
                        shell.status = status;
                    };
                }
                case "def": {
                    deeper(depth);
                    need(kind() == WORD && !RESERVED.contains(token()) && !COMMANDS.contains(token()));
                    String name = word();
                    take("{");
                    Node inner = sequence(script(depth + 1));
                    take("}");
                    return shell -> {
                        boolean fits = shell.functions.containsKey(name) || shell.functions.size() < 10;
                        if (fits) {
                            shell.functions.put(name, inner);
                        }
                        shell.status = fits ? 0 : 1;
                    };
                }
                default:
                    simple[0] = true;
                    return named(bareExec);
            }
        }

        Node named(boolean[] bareExec) {
            need(!RESERVED.contains(token()));
            String name = word();
            if (token().equals("=")) {
                at++;
                Argument value = argument();
                return shell -> shell.status = set(shell, name, value.in(shell)) ? 0 : 1;
            }
            List<Argument> arguments = new ArrayList<>();
            while (token().equals("$") || kind() == WORD && !isHandle()) {
                arguments.add(argument());
            }
            bareExec[0] = name.equals("exec") && arguments.isEmpty();
            return shell -> {
                List<String> values = new ArrayList<>();
                for (Argument argument : arguments) {
                    values.add(argument.in(shell));
                }
                shell.status = perform(shell, name, values);
            };
        }

        Argument argument() {
            if (kind() == WORD) {
                String word = word();
                return shell -> word;
            }
            take("$");
            if (token().equals("?")) {
                at++;
                return shell -> Integer.toString(shell.status);
            }
            String name = word();
            return shell -> shell.variables.getOrDefault(name, "");
        }
    }
}
