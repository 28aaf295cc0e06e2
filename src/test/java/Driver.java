import java.nio.charset.StandardCharsets;

/** Puts texts into a ShellCore and takes texts out of it. */
final class Driver {
    final ShellCore core = new ShellCore();

    /** Fills the buffer, which has to be empty, with the text; at most 700 characters 0 to 255. */
    void fill(String text) {
        byte[] bytes = text.getBytes(StandardCharsets.ISO_8859_1);
        if (!core.truncate(0)) {
            throw new AssertionError("truncate(0)");
        }
        for (int at = 0; at < bytes.length; at += 20) {
            int[] words = new int[5];
            for (int i = 0; i < 20; i++) {
                int b = at + i < bytes.length ? bytes[at + i] & 255 : 0;
                words[i / 4] = words[i / 4] << 8 | b;
            }
            if (core.append(words[0], words[1], words[2], words[3], words[4]) < 0) {
                throw new AssertionError("append");
            }
        }
        if (!core.truncate(bytes.length)) {
            throw new AssertionError("truncate(" + bytes.length + ")");
        }
    }

    /** The number of chains; -1 if the text is refused. */
    int load(String text) {
        fill(text);
        try {
            return core.load();
        } catch (IllegalArgumentException e) {
            return -1;
        }
    }

    /** The number of input lines; -1 if the text is refused. */
    int type(String text) {
        fill(text);
        try {
            return core.type();
        } catch (IllegalStateException e) {
            return -1;
        }
    }

    int loadAndRun(String text) {
        if (load(text) < 0) {
            throw new AssertionError("refused at " + core.errorOffset() + ": " + text);
        }
        return core.run();
    }

    String formatted(int length) {
        StringBuilder text = new StringBuilder();
        for (int i = 0; i < length; i++) {
            text.append((char) core.formattedByte(i));
        }
        return text.toString();
    }

    /** The formatted text as it is now. */
    String text() {
        int length = 0;
        while (length < 80 && core.formattedByte(length) >= 0) {
            length++;
        }
        return formatted(length);
    }

    String output(int line) {
        return formatted(core.formatOutput(line));
    }

    /** All output lines, each behind a slash. */
    String outputs() {
        StringBuilder text = new StringBuilder();
        for (int i = 0; i < core.outputCount(); i++) {
            text.append('/').append(output(i));
        }
        return text.toString();
    }

    /** All lines of a file, each behind a slash; null if there is no such file. */
    String file(String name) {
        int file = core.fileNamed(name(name));
        if (file < 0) {
            return null;
        }
        StringBuilder text = new StringBuilder();
        for (int i = 0; i < core.lineCount(file); i++) {
            text.append('/').append(formatted(core.formatLine(file, i)));
        }
        return text.toString();
    }

    String variable(String name) {
        int length = core.formatVariable(name(name));
        return length < 0 ? null : formatted(length);
    }

    String handles() {
        return formatted(core.formatHandles());
    }

    /** All records, each as offset:status:depth behind a space. */
    String trace() {
        StringBuilder text = new StringBuilder();
        for (int k = 0; k < core.traceCount(); k++) {
            text.append(' ').append(core.traceField(k, 0)).append(':').append(core.traceField(k, 1));
            text.append(':').append(core.traceField(k, 2));
        }
        return text.toString();
    }

    /** All that can be asked for, but for variables, functions and the formatted text, which is changed by asking. */
    String state() {
        ShellCore x = core;
        StringBuilder s = new StringBuilder();
        s.append(x.status()).append(x.isStopped()).append(" begun ").append(x.begun()).append(" forks ").append(x.forks());
        s.append(" jobs ").append(x.jobCount());
        for (int i = 0; i <= 9; i++) {
            s.append(' ').append(x.jobStatus(i));
        }
        s.append(" undo ").append(x.undoDepth()).append(' ').append(handles());
        for (int i = 0; i < 10; i++) {
            s.append(x.handleKind(i));
        }
        s.append(" set ").append(x.variableCount()).append(" def ").append(x.functionCount()).append(' ').append(x.isPipefail());
        for (int i = 0; i < 4; i++) {
            s.append(' ').append(x.actionOf(i));
        }
        s.append(" in ").append(x.inputCount()).append(" out ").append(outputs());
        for (int i = 0; i < x.fileCount(); i++) {
            String name = formatted(x.formatName(i));
            s.append(" file ").append(name).append(x.fileNamed(Driver.name(name)) == i).append(file(name));
        }
        s.append(" trace").append(trace()).append(" failures ").append(x.failures());
        s.append(" error ").append(x.errorKind()).append(' ').append(x.errorOffset());
        return s.toString();
    }

    /** The variables and functions of one letter, and what else can be asked for; the formatted text is the handles then. */
    String everything() {
        StringBuilder s = new StringBuilder();
        for (char c = 'a'; c <= 'z'; c++) {
            String name = String.valueOf(c);
            s.append(name).append(core.isSet(name(name))).append(variable(name)).append(core.isDefined(name(name))).append(' ');
        }
        s.append(state());
        formatted(core.formatHandles());
        return s.toString();
    }

    static long name(String word) {
        long value = 0;
        for (int i = 0; i < word.length(); i++) {
            char c = word.charAt(i);
            value = 37 * value + (c >= 'a' ? c - 'a' + 1 : c - '0' + 27);
        }
        return value;
    }
}
