/**
 * A core of a command shell: a script text is parsed into a short code, and a machine with a stack of its own
 * executes that code for the main shell and its subshells.
 *
 * All calls share a bounded room, so rows are made once and used again: lines are rows that are named by number,
 * and shells, open files and saved handles go back to lists of free ones.
 */
public final class ShellCore {
    public static final int NONE = -1;
    public static final int SYNTAX = 1;
    public static final int TOO_DEEP = 2;
    public static final int TOO_LONG = 3;
    public static final int CLOSED = 0;
    public static final int TERMINAL = 1;
    public static final int READING = 2;
    public static final int WRITING = 3;
    public static final int APPENDING = 4;

    private static final int PIPE_OUTLET = 5;
    private static final int PIPE_INLET = 6;

    private static final int MAX_TEXT = 700;
    private static final int MAX_LINE = 80;
    private static final int MAX_WORD = 12;
    private static final int MAX_UNDO = 6;
    private static final int MAX_INPUT = 40;
    private static final int HANDLES = 10;
    private static final int SIGNALS = 4;
    private static final int EXIT_SIGNAL = 3;
    private static final long DEFAULT_ACTION = 0L;
    private static final long IGNORE_ACTION = -2L;
    private static final int LINE_FEED = 10;

    private final byte[] buffer;
    private int bufferLength;
    private final byte[] formatted;
    private int formattedLength;
    private final Lines lines;
    private final World world;
    private final World[] past;
    private int pastCount;
    private final Parser parser;
    private final Machine machine;
    private Program program;
    private Program spare;

    public ShellCore() {
        buffer = new byte[MAX_TEXT];
        formatted = new byte[MAX_LINE];
        lines = new Lines();
        Channels channels = new Channels();
        world = new World(channels);
        past = new World[MAX_UNDO];
        for (int i = 0; i < MAX_UNDO; i++) {
            past[i] = new World(channels);
        }
        parser = new Parser(buffer);
        machine = new Machine(world, channels, lines);
        program = new Program();
        spare = new Program();
        program.emit(Program.END);
        world.beginAnew();
    }

    // ---- input

    public int append(int w0, int w1, int w2, int w3, int w4) {
        if (bufferLength < 0 || bufferLength > MAX_TEXT - 20) {
            return NONE;
        }
        addWord(w0);
        addWord(w1);
        addWord(w2);
        addWord(w3);
        addWord(w4);
        return bufferLength;
    }

    private void addWord(int word) {
        for (int shift = 24; shift >= 0; shift -= 8) {
            if (bufferLength >= 0 && bufferLength < MAX_TEXT) {
                buffer[bufferLength] = (byte) (word >> shift);
                bufferLength++;
            }
        }
    }

    public boolean truncate(int length) {
        if (length < 0 || length > bufferLength) {
            return false;
        }
        bufferLength = length;
        return true;
    }

    public int load() throws IllegalArgumentException {
        int length = bufferLength;
        bufferLength = 0;
        int chains = parser.parse(length, spare);
        Program old = program;
        program = spare;
        spare = old;
        world.beginAnew();
        pastCount = 0;
        return chains;
    }

    public int errorOffset() {
        return parser.errorOffset;
    }

    public int errorKind() {
        return parser.errorKind;
    }

    public int type() throws IllegalStateException {
        int length = bufferLength;
        bufferLength = 0;
        if (world.inputCount + typedLines(length) > MAX_INPUT) {
            throw new IllegalStateException("too many input lines");
        }
        remember();
        int start = 0;
        for (int at = 0; at < length && at < MAX_TEXT; at++) {
            if (buffer[at] == LINE_FEED) {
                world.addInput(lines.make(buffer, start, at - start));
                start = at + 1;
            }
        }
        if (start < length) {
            world.addInput(lines.make(buffer, start, length - start));
        }
        return world.inputCount;
    }

    private int typedLines(int length) {
        int count = 0;
        int start = 0;
        for (int at = 0; at < length && at < MAX_TEXT; at++) {
            if (buffer[at] == LINE_FEED) {
                count++;
                start = at + 1;
            }
        }
        return start < length ? count + 1 : count;
    }

    // ---- running

    public int run() {
        remember();
        machine.execute(program);
        return world.main.status;
    }

    /** Keeps the present state for undo and frees the rows of lines that no state names any more. */
    private void remember() {
        if (pastCount >= MAX_UNDO) {
            World oldest = past[0];
            for (int i = 1; i < MAX_UNDO; i++) {
                past[i - 1] = past[i];
            }
            past[MAX_UNDO - 1] = oldest;
            pastCount = MAX_UNDO - 1;
        }
        if (pastCount >= 0) {
            past[pastCount].copyFrom(world);
            pastCount++;
        }
        lines.forgetMarks();
        for (int i = 0; i < pastCount && i < MAX_UNDO; i++) {
            past[i].markLines(lines);
        }
    }

    public int status() {
        return world.main.status;
    }

    public boolean isStopped() {
        return world.stopped;
    }

    public int begun() {
        return world.begun;
    }

    public int forks() {
        return world.forks;
    }

    public int jobCount() {
        return world.main.jobCount;
    }

    public int jobStatus(int job) {
        if (job < 1 || job > world.main.jobCount) {
            return NONE;
        }
        return world.main.statusOfJob(job - 1);
    }

    public int undo() {
        if (pastCount <= 0 || pastCount > MAX_UNDO) {
            return NONE;
        }
        pastCount--;
        world.copyFrom(past[pastCount]);
        return pastCount;
    }

    public int undoDepth() {
        return pastCount;
    }

    // ---- the main shell

    public int handleKind(int handle) throws IndexOutOfBoundsException {
        if (handle < 0 || handle >= HANDLES) {
            throw new IndexOutOfBoundsException("no such handle");
        }
        return world.main.handles.kindOf(handle);
    }

    public int variableCount() {
        return world.main.variables.count;
    }

    public boolean isSet(long name) {
        return world.main.variables.find(name) >= 0;
    }

    public int functionCount() {
        return world.main.functions.count;
    }

    public boolean isDefined(long name) {
        return world.main.functions.find(name) >= 0;
    }

    public long actionOf(int signal) throws IndexOutOfBoundsException {
        if (signal < 0 || signal >= SIGNALS) {
            throw new IndexOutOfBoundsException("no such signal");
        }
        return world.main.actions[signal];
    }

    public boolean isPipefail() {
        return world.main.pipefail;
    }

    // ---- the world

    public int fileCount() {
        return world.fileCount;
    }

    public int fileNamed(long name) {
        return world.findFile(name);
    }

    public int lineCount(int file) throws IndexOutOfBoundsException {
        checkFile(file);
        return world.fileLength(file);
    }

    private void checkFile(int file) {
        if (file < 0 || file >= world.fileCount) {
            throw new IndexOutOfBoundsException("no such file");
        }
    }

    public int outputCount() {
        return world.outputCount;
    }

    public int inputCount() {
        return world.inputCount;
    }

    // ---- the trace

    public int traceCount() {
        return world.traceLength();
    }

    public int traceField(int k, int what) throws IndexOutOfBoundsException, IllegalArgumentException {
        if (k < 0 || k >= world.traceLength()) {
            throw new IndexOutOfBoundsException("no such record");
        }
        if (what < 0 || what > 2) {
            throw new IllegalArgumentException("no such field of a record");
        }
        return world.recordField(k, what);
    }

    public int failures() {
        int count = 0;
        int length = world.traceLength();
        for (int k = 0; k < length; k++) {
            if (world.recordField(k, 1) != 0) {
                count++;
            }
        }
        return count;
    }

    // ---- formatted text

    public int formatLine(int file, int line) throws IndexOutOfBoundsException {
        checkFile(file);
        int row = world.lineAt(file, line);
        if (row < 0) {
            throw new IndexOutOfBoundsException("no such line");
        }
        return formatRow(row);
    }

    private int formatRow(int row) {
        formattedLength = lines.copyTo(row, formatted, 0);
        return formattedLength;
    }

    public int formatOutput(int line) throws IndexOutOfBoundsException {
        if (line < 0 || line >= world.outputCount || line >= World.MAX_OUTPUT) {
            throw new IndexOutOfBoundsException("no such line");
        }
        return formatRow(world.output[line]);
    }

    public int formatVariable(long name) {
        int index = world.main.variables.find(name);
        if (index < 0) {
            return NONE;
        }
        return formatRow(world.main.variables.valueAt(index));
    }

    public int formatHandles() {
        formattedLength = 0;
        for (int handle = 0; handle < HANDLES; handle++) {
            formatted[handle] = (byte) letterOf(world.main.handles.kindOf(handle));
            formattedLength++;
        }
        return formattedLength;
    }

    private static char letterOf(int kind) {
        switch (kind) {
            case TERMINAL: return 't';
            case READING: return 'r';
            case WRITING: return 'w';
            case APPENDING: return 'a';
            default: return '.';
        }
    }

    public int formatName(int file) throws IndexOutOfBoundsException {
        checkFile(file);
        formattedLength = spell(world.fileName(file), formatted, 0);
        return formattedLength;
    }

    public int formattedByte(int index) {
        if (index < 0 || index >= formattedLength || index >= MAX_LINE) {
            return NONE;
        }
        return formatted[index] & 255;
    }

    // ---- names

    /** The value of a byte in a name, 1 to 36; 0 if no name has that byte. */
    private static int letterValue(int b) {
        if (b >= 'a' && b <= 'z') {
            return b - 'a' + 1;
        }
        if (b >= '0' && b <= '9') {
            return b - '0' + 27;
        }
        return 0;
    }

    /** Writes the name behind what stands before 'at', as far as it fits; answers where its end is. */
    private static int spell(long name, byte[] target, int at) {
        int length = 0;
        for (long rest = name; rest > 0 && length < MAX_WORD; rest /= 37) {
            length++;
        }
        long rest = name;
        for (int i = length - 1; i >= 0; i--) {
            int value = (int) (rest % 37);
            int place = at + i;
            if (place >= 0 && place < target.length) {
                target[place] = (byte) (value <= 26 ? value + 'a' - 1 : value + '0' - 27);
            }
            rest /= 37;
        }
        return Math.min(at + length, target.length);
    }

    /** The name that a row of bytes is; 0 if it is none. */
    private static long nameIn(byte[] text, int length) {
        if (length < 1 || length > MAX_WORD || length > text.length) {
            return 0L;
        }
        long name = 0L;
        for (int i = 0; i < length; i++) {
            int value = letterValue(text[i]);
            if (value == 0) {
                return 0L;
            }
            name = 37L * name + value;
        }
        return name;
    }

    /** The number of 1 to 5 digits that a row of bytes is; NONE if it is none. */
    private static int numberIn(byte[] text, int length) {
        if (length < 1 || length > 5 || length > text.length) {
            return NONE;
        }
        int number = 0;
        for (int i = 0; i < length; i++) {
            int digit = text[i] - '0';
            if (digit < 0 || digit > 9) {
                return NONE;
            }
            number = 10 * number + digit;
        }
        return number;
    }

    /**
     * The rows of all lines. A line is never changed, so files, pipes and variables share it by its row's number.
     * Rows are freed between the actions only, when what the kept states name has been marked.
     */
    private static final class Lines {
        static final int EMPTY = 0;
        // Six kept states with at most 480 lines each, one line for each of the 300 commands of a run, the empty line.
        private static final int ROWS = 3200;

        private final byte[] bytes;
        private final int[] lengths;
        private final boolean[] used;
        private int next;
        private int reached;

        Lines() {
            bytes = new byte[ROWS * MAX_LINE];
            lengths = new int[ROWS];
            used = new boolean[ROWS];
            next = 1;
        }

        void forgetMarks() {
            for (int i = 0; i < reached && i < ROWS; i++) {
                used[i] = false;
            }
            next = 1;
        }

        void mark(int line) {
            if (line >= 0 && line < ROWS) {
                used[line] = true;
            }
        }

        void markAll(int[] rows, int from, int count) {
            for (int i = from; i < from + count && i >= 0 && i < rows.length; i++) {
                mark(rows[i]);
            }
        }

        /** A line of these bytes, cut to its first 80. */
        int make(byte[] source, int start, int length) {
            int kept = length < MAX_LINE ? length : MAX_LINE;
            if (kept <= 0 || start < 0 || kept > source.length || start > source.length - kept) {
                return EMPTY;
            }
            while (next < ROWS && used[next]) {
                next++;
            }
            if (next < 1 || next >= ROWS) {
                return EMPTY;
            }
            int line = next;
            used[line] = true;
            lengths[line] = kept;
            System.arraycopy(source, start, bytes, line * MAX_LINE, kept);
            next++;
            if (reached < next) {
                reached = next;
            }
            return line;
        }

        /** Copies a line behind what stands before 'at', as far as it fits; answers where its end is. */
        int copyTo(int line, byte[] target, int at) {
            if (line < 0 || line >= ROWS || at < 0 || at > target.length) {
                return at;
            }
            int room = target.length - at;
            int count = lengths[line] < room ? lengths[line] : room;
            System.arraycopy(bytes, line * MAX_LINE, target, at, count);
            return at + count;
        }
    }

    /** Names with a number each: variables with the rows of their lines, functions with their places in the code. */
    private static final class Table {
        private final long[] names;
        private final int[] values;
        int count;

        Table(int limit) {
            int size = Math.max(limit, 0);
            names = new long[size];
            values = new int[size];
        }

        int find(long name) {
            for (int i = 0; i < count && i < names.length; i++) {
                if (names[i] == name) {
                    return i;
                }
            }
            return NONE;
        }

        int valueAt(int index) {
            return index >= 0 && index < values.length ? values[index] : 0;
        }

        /** Sets the name's number; false, without effect, if there is no place for one more name. */
        boolean put(long name, int value) {
            int index = find(name);
            if (index < 0) {
                if (count < 0 || count >= names.length) {
                    return false;
                }
                index = count;
                names[index] = name;
                count++;
            }
            if (index < values.length) {
                values[index] = value;
            }
            return true;
        }

        void copyFrom(Table other) {
            count = 0;
            for (int i = 0; i < other.count && i < names.length && i < other.names.length; i++) {
                names[i] = other.names[i];
                values[i] = other.values[i];
                count++;
            }
        }

        void markLines(Lines lines) {
            lines.markAll(values, 0, count);
        }
    }

    /** What a handle refers to. Handles that share it share its position. */
    private static final class OpenFile {
        int kind;
        int file;
        int pipe;
        int position;
        int references;
        OpenFile nextFree;
    }

    /** The open files, which come back when no handle refers to them, and the lines in the pipes of a run. */
    private static final class Channels {
        // A command that is begun makes at most one pipe and puts at most 40 lines more into pipes than it takes out.
        private static final int MAX_PIPES = 302;
        private static final int MAX_NODES = 12040;

        OpenFile free;
        private final int[] firstNodes;
        private final int[] lastNodes;
        private int pipeCount;
        private final int[] nodeLines;
        private final int[] nodeNext;
        private int nodesMade;
        private int freeNode;

        Channels() {
            firstNodes = new int[MAX_PIPES];
            lastNodes = new int[MAX_PIPES];
            nodeLines = new int[MAX_NODES];
            nodeNext = new int[MAX_NODES];
            freeNode = NONE;
        }

        OpenFile open(int kind, int file, int pipe, int position) {
            OpenFile opened = free;
            if (opened == null) {
                opened = new OpenFile();
            } else {
                free = opened.nextFree;
            }
            opened.nextFree = null;
            opened.kind = kind;
            opened.file = file;
            opened.pipe = pipe;
            opened.position = position;
            opened.references = 0;
            return opened;
        }

        void forgetPipes() {
            pipeCount = 0;
            nodesMade = 0;
            freeNode = NONE;
        }

        int makePipe() {
            if (pipeCount < 0 || pipeCount >= MAX_PIPES) {
                return NONE;
            }
            int pipe = pipeCount;
            firstNodes[pipe] = NONE;
            lastNodes[pipe] = NONE;
            pipeCount++;
            return pipe;
        }

        boolean putIn(int pipe, int line) {
            int node = takeNode();
            if (pipe < 0 || pipe >= MAX_PIPES || node < 0 || node >= MAX_NODES) {
                return false;
            }
            nodeLines[node] = line;
            nodeNext[node] = NONE;
            int last = lastNodes[pipe];
            if (last >= 0 && last < MAX_NODES) {
                nodeNext[last] = node;
            } else {
                firstNodes[pipe] = node;
            }
            lastNodes[pipe] = node;
            return true;
        }

        private int takeNode() {
            int node = freeNode;
            if (node >= 0 && node < MAX_NODES) {
                freeNode = nodeNext[node];
                return node;
            }
            if (nodesMade < MAX_NODES) {
                nodesMade++;
                return nodesMade - 1;
            }
            return NONE;
        }

        /** Removes the first line of the pipe; NONE if it is empty. */
        int takeFrom(int pipe) {
            if (pipe < 0 || pipe >= MAX_PIPES) {
                return NONE;
            }
            int node = firstNodes[pipe];
            if (node < 0 || node >= MAX_NODES) {
                return NONE;
            }
            firstNodes[pipe] = nodeNext[node];
            if (firstNodes[pipe] < 0) {
                lastNodes[pipe] = NONE;
            }
            nodeNext[node] = freeNode;
            freeNode = node;
            return nodeLines[node];
        }
    }

    /** Ten handles; it counts the references to open files, so that they come back when the last one is gone. */
    private static final class Handles {
        private final Channels channels;
        private final OpenFile[] slots;

        Handles(Channels channels) {
            this.channels = channels;
            slots = new OpenFile[HANDLES];
        }

        OpenFile at(int handle) {
            return handle >= 0 && handle < HANDLES ? slots[handle] : null;
        }

        int kindOf(int handle) {
            OpenFile opened = at(handle);
            return opened == null ? CLOSED : opened.kind;
        }

        void put(int handle, OpenFile opened) {
            if (handle < 0 || handle >= HANDLES) {
                return;
            }
            // Counted up first: a handle that is set to what it has must not let go of it.
            if (opened != null) {
                opened.references++;
            }
            OpenFile old = slots[handle];
            slots[handle] = opened;
            if (old != null) {
                old.references--;
                if (old.references <= 0) {
                    old.nextFree = channels.free;
                    channels.free = old;
                }
            }
        }

        void closeAll() {
            for (int handle = 0; handle < HANDLES; handle++) {
                put(handle, null);
            }
        }

        void copyFrom(Handles other) {
            for (int handle = 0; handle < HANDLES; handle++) {
                put(handle, other.slots[handle]);
            }
        }

        void beginAnew() {
            closeAll();
            OpenFile terminal = channels.open(TERMINAL, NONE, NONE, 0);
            put(0, terminal);
            put(1, terminal);
            put(2, terminal);
        }

        /** Like copyFrom, but with open files of its own, that are shared as the other's are: positions part ways. */
        void copyApart(Handles other) {
            for (int handle = 0; handle < HANDLES; handle++) {
                OpenFile theirs = other.slots[handle];
                int sharer = other.firstSharer(handle);
                if (theirs == null) {
                    put(handle, null);
                } else if (sharer < handle) {
                    put(handle, slots[sharer]);
                } else {
                    put(handle, channels.open(theirs.kind, theirs.file, theirs.pipe, theirs.position));
                }
            }
        }

        private int firstSharer(int handle) {
            for (int other = 0; other < handle && other < HANDLES; other++) {
                if (slots[other] == slots[handle]) {
                    return other;
                }
            }
            return handle;
        }
    }

    /** A shell: the main one, or a subshell that is executing or waits as a job. */
    private static final class Shell {
        static final int MAX_VARIABLES = 20;
        static final int MAX_FUNCTIONS = 10;
        static final int MAX_JOBS = 8;

        final Table variables;
        final Table functions;
        final long[] actions;
        final Handles handles;
        boolean pipefail;
        boolean background;
        int status;
        int depth;
        int nesting;
        int firstNesting;
        boolean ending;
        int endStatus;
        int base;
        Shell parent;
        int jobCount;
        private final Shell[] jobShells;
        private final int[] jobStarts;
        private final int[] jobStatuses;

        Shell(Channels channels) {
            variables = new Table(MAX_VARIABLES);
            functions = new Table(MAX_FUNCTIONS);
            actions = new long[SIGNALS];
            handles = new Handles(channels);
            jobShells = new Shell[MAX_JOBS];
            jobStarts = new int[MAX_JOBS];
            jobStatuses = new int[MAX_JOBS];
        }

        void beginAnew() {
            variables.count = 0;
            functions.count = 0;
            for (int i = 0; i < SIGNALS; i++) {
                actions[i] = DEFAULT_ACTION;
            }
            handles.beginAnew();
            pipefail = false;
            status = 0;
            prepare();
        }

        /** What a shell has at its beginning and does not get from anywhere. */
        void prepare() {
            firstNesting = 0;
            nesting = 0;
            ending = false;
            base = 0;
            parent = null;
            jobCount = 0;
        }

        void inheritFrom(Shell maker) {
            prepare();
            variables.copyFrom(maker.variables);
            functions.copyFrom(maker.functions);
            handles.copyFrom(maker.handles);
            for (int i = 0; i < SIGNALS; i++) {
                actions[i] = maker.actions[i] == IGNORE_ACTION ? IGNORE_ACTION : DEFAULT_ACTION;
            }
            pipefail = maker.pipefail;
            background = maker.background;
            status = maker.status;
            depth = maker.depth + 1;
            firstNesting = maker.nesting;
            nesting = maker.nesting;
        }

        /** Copies the main shell between two runs. */
        void copyFrom(Shell other) {
            variables.copyFrom(other.variables);
            functions.copyFrom(other.functions);
            handles.copyApart(other.handles);
            System.arraycopy(other.actions, 0, actions, 0, SIGNALS);
            pipefail = other.pipefail;
            status = other.status;
            jobCount = other.jobCount;
            System.arraycopy(other.jobStatuses, 0, jobStatuses, 0, MAX_JOBS);
        }

        boolean addJob(Shell child, int start) {
            if (jobCount < 0 || jobCount >= MAX_JOBS) {
                return false;
            }
            jobShells[jobCount] = child;
            jobStarts[jobCount] = start;
            jobStatuses[jobCount] = NONE;
            jobCount++;
            return true;
        }

        private boolean isWaiting(int job) {
            return job >= 0 && job < jobCount && job < MAX_JOBS && jobShells[job] != null;
        }

        /** The first job that has not been run; NONE if there is none. */
        int firstWaiting() {
            for (int job = 0; job < jobCount; job++) {
                if (isWaiting(job)) {
                    return job;
                }
            }
            return NONE;
        }

        /** Takes the subshell of a job, which is from now on no job that has not been run. */
        Shell takeJob(int job) {
            if (!isWaiting(job)) {
                return null;
            }
            Shell child = jobShells[job];
            jobShells[job] = null;
            return child;
        }

        int startOfJob(int job) {
            return job >= 0 && job < MAX_JOBS ? jobStarts[job] : NONE;
        }

        int statusOfJob(int job) {
            return job >= 0 && job < MAX_JOBS ? jobStatuses[job] : NONE;
        }

        void keepJobStatus(int job, int value) {
            if (job >= 0 && job < MAX_JOBS) {
                jobStatuses[job] = value;
            }
        }
    }

    /** All that undo restores: the files, the terminal, the main shell, the trace and the counts. */
    private static final class World {
        static final int MAX_OUTPUT = 100;
        private static final int MAX_FILES = 8;
        private static final int MAX_LINES = 40;
        private static final int MAX_RECORDS = 60;

        private final long[] fileNames;
        private final int[] fileLengths;
        private final int[] fileLines;
        int fileCount;
        private final int[] input;
        int inputCount;
        final int[] output;
        int outputCount;
        final Shell main;
        // Three numbers a record; the record with the number n stands at place n modulo 60.
        private final int[] records;
        private int recorded;
        int begun;
        int forks;
        boolean stopped;

        World(Channels channels) {
            fileNames = new long[MAX_FILES];
            fileLengths = new int[MAX_FILES];
            fileLines = new int[MAX_FILES * MAX_LINES];
            input = new int[MAX_INPUT];
            output = new int[MAX_OUTPUT];
            main = new Shell(channels);
            records = new int[3 * MAX_RECORDS];
        }

        void beginAnew() {
            main.beginAnew();
            forgetRun();
        }

        void forgetRun() {
            recorded = 0;
            begun = 0;
            forks = 0;
            stopped = false;
        }

        void copyFrom(World other) {
            fileCount = other.fileCount;
            System.arraycopy(other.fileNames, 0, fileNames, 0, MAX_FILES);
            System.arraycopy(other.fileLengths, 0, fileLengths, 0, MAX_FILES);
            System.arraycopy(other.fileLines, 0, fileLines, 0, MAX_FILES * MAX_LINES);
            inputCount = other.inputCount;
            System.arraycopy(other.input, 0, input, 0, MAX_INPUT);
            outputCount = other.outputCount;
            System.arraycopy(other.output, 0, output, 0, MAX_OUTPUT);
            main.copyFrom(other.main);
            recorded = other.recorded;
            System.arraycopy(other.records, 0, records, 0, 3 * MAX_RECORDS);
            begun = other.begun;
            forks = other.forks;
            stopped = other.stopped;
        }

        void markLines(Lines lines) {
            for (int file = 0; file < fileCount; file++) {
                lines.markAll(fileLines, file * MAX_LINES, fileLength(file));
            }
            lines.markAll(input, 0, inputCount);
            lines.markAll(output, 0, outputCount);
            main.variables.markLines(lines);
        }

        // ---- files

        int findFile(long name) {
            for (int file = 0; file < fileCount && file < MAX_FILES; file++) {
                if (fileNames[file] == name) {
                    return file;
                }
            }
            return NONE;
        }

        /** The file with the name, made if there is none; NONE if there are too many. */
        int findOrMake(long name) {
            int file = findFile(name);
            if (file < 0 && fileCount >= 0 && fileCount < MAX_FILES) {
                file = fileCount;
                fileNames[file] = name;
                fileLengths[file] = 0;
                fileCount++;
            }
            return file;
        }

        void loseLines(int file) {
            if (file >= 0 && file < MAX_FILES) {
                fileLengths[file] = 0;
            }
        }

        long fileName(int file) {
            return file >= 0 && file < MAX_FILES ? fileNames[file] : 0L;
        }

        int fileLength(int file) {
            return file >= 0 && file < MAX_FILES ? fileLengths[file] : 0;
        }

        /** The row of a line of a file; NONE if there is no such line. */
        int lineAt(int file, int line) {
            if (file < 0 || file >= MAX_FILES || line < 0 || line >= fileLengths[file] || line >= MAX_LINES) {
                return NONE;
            }
            return fileLines[file * MAX_LINES + line];
        }

        /** Writes at a position of a file, behind as many empty lines as are missing before it. */
        boolean putLine(int file, int position, int row) {
            if (file < 0 || file >= MAX_FILES || position < 0 || position >= MAX_LINES) {
                return false;
            }
            for (int line = fileLengths[file]; line >= 0 && line < position; line++) {
                fileLines[file * MAX_LINES + line] = Lines.EMPTY;
            }
            fileLines[file * MAX_LINES + position] = row;
            if (fileLengths[file] <= position) {
                fileLengths[file] = position + 1;
            }
            return true;
        }

        // ---- the terminal

        void addInput(int row) {
            if (inputCount >= 0 && inputCount < MAX_INPUT) {
                input[inputCount] = row;
                inputCount++;
            }
        }

        /** Removes the first input line; NONE if there is none. */
        int takeInput() {
            if (inputCount <= 0 || inputCount > MAX_INPUT) {
                return NONE;
            }
            int row = input[0];
            System.arraycopy(input, 1, input, 0, inputCount - 1);
            inputCount--;
            return row;
        }

        boolean addOutput(int row) {
            if (outputCount < 0 || outputCount >= MAX_OUTPUT) {
                return false;
            }
            output[outputCount] = row;
            outputCount++;
            return true;
        }

        // ---- the trace

        int traceLength() {
            return Math.min(recorded, MAX_RECORDS);
        }

        void addRecord(int offset, int status, int depth) {
            int place = recorded % MAX_RECORDS * 3;
            if (place >= 0) {
                records[place] = offset;
                records[place + 1] = status;
                records[place + 2] = depth;
                recorded++;
            }
        }

        int recordField(int k, int what) {
            int place = (recorded - traceLength() + k) % MAX_RECORDS * 3 + what;
            return place >= 0 && place < records.length ? records[place] : 0;
        }
    }

    /** The code of a script, and what stands in its commands. */
    private static final class Program {
        static final int NOTHING = 0;
        static final int BEGIN = 1;
        static final int FINISH = 2;
        static final int CALL = 3;
        static final int ASSIGN = 4;
        static final int DEFINE = 5;
        static final int RETURN = 6;
        static final int ZERO = 7;
        static final int NOT = 8;
        static final int JUMP = 9;
        static final int JUMP_IF_ZERO = 10;
        static final int JUMP_IF_FAILED = 11;
        static final int LOOP = 12;
        static final int LOOP_TEST = 13;
        static final int LOOP_AGAIN = 14;
        static final int FORK = 15;
        static final int JOB = 16;
        static final int FIRST_PIPED = 17;
        static final int NEXT_PIPED = 18;
        static final int LAST_PIPED = 19;
        static final int PIPED = 20;
        static final int END = 21;

        // Kinds of commands, besides those of Commands.
        static final int COMPOUND = -2;
        static final int ASSIGNMENT = -1;

        static final int WORD = 0;
        static final int VARIABLE = 1;
        static final int STATUS = 2;

        static final int FROM_FILE = 0;
        static final int TO_FILE = 1;
        static final int BEHIND_FILE = 2;
        static final int SAME_AS = 3;
        static final int CLOSE = 4;

        // Each byte of a text makes fewer than 4 steps of code, and at most one command, argument or redirection.
        private static final int MAX_CODE = 4 * MAX_TEXT + 1;

        private final int[] steps;
        private final int[] operands;
        private final int[] targets;
        int size;
        private final int[] commandKinds;
        private final int[] commandOffsets;
        private final long[] commandNames;
        private final int[] firstArguments;
        private final int[] argumentCounts;
        private final int[] firstRedirections;
        private final int[] redirectionCounts;
        private int commands;
        private final int[] argumentKinds;
        private final long[] argumentNames;
        private int arguments;
        private final int[] redirections;
        private final long[] redirectionNames;
        private int redirectionsMade;

        Program() {
            steps = new int[MAX_CODE];
            operands = new int[MAX_CODE];
            targets = new int[MAX_CODE];
            commandKinds = new int[MAX_TEXT];
            commandOffsets = new int[MAX_TEXT];
            commandNames = new long[MAX_TEXT];
            firstArguments = new int[MAX_TEXT];
            argumentCounts = new int[MAX_TEXT];
            firstRedirections = new int[MAX_TEXT];
            redirectionCounts = new int[MAX_TEXT];
            argumentKinds = new int[MAX_TEXT];
            argumentNames = new long[MAX_TEXT];
            redirections = new int[MAX_TEXT];
            redirectionNames = new long[MAX_TEXT];
        }

        void makeEmpty() {
            size = 0;
            commands = 0;
            arguments = 0;
            redirectionsMade = 0;
        }

        // ---- the code

        int emit(int step) {
            return emitFor(step, 0);
        }

        int emitFor(int step, int operand) {
            if (size < 0 || size >= MAX_CODE) {
                return NONE;
            }
            steps[size] = step;
            operands[size] = operand;
            targets[size] = 0;
            size++;
            return size - 1;
        }

        private boolean isPlace(int at) {
            return at >= 0 && at < size && at < MAX_CODE;
        }

        void aim(int at, int target) {
            if (isPlace(at)) {
                targets[at] = target;
            }
        }

        void become(int at, int step) {
            if (isPlace(at)) {
                steps[at] = step;
            }
        }

        int stepAt(int at) {
            return isPlace(at) ? steps[at] : END;
        }

        int operandAt(int at) {
            return isPlace(at) ? operands[at] : 0;
        }

        int targetAt(int at) {
            return isPlace(at) ? targets[at] : 0;
        }

        /** The place of the last step, with which the shell that executes it ends. */
        int end() {
            return size - 1;
        }

        // ---- commands

        int addCommand(int offset) {
            if (commands < 0 || commands >= MAX_TEXT) {
                return NONE;
            }
            int command = commands;
            commandKinds[command] = COMPOUND;
            commandOffsets[command] = offset;
            commandNames[command] = 0L;
            argumentCounts[command] = 0;
            redirectionCounts[command] = 0;
            commands++;
            return command;
        }

        private boolean isCommand(int command) {
            return command >= 0 && command < commands && command < MAX_TEXT;
        }

        void setBody(int command, int kind, long name) {
            if (isCommand(command)) {
                commandKinds[command] = kind;
                commandNames[command] = name;
            }
        }

        int kindOf(int command) {
            return isCommand(command) ? commandKinds[command] : COMPOUND;
        }

        int offsetOf(int command) {
            return isCommand(command) ? commandOffsets[command] : 0;
        }

        long nameOf(int command) {
            return isCommand(command) ? commandNames[command] : 0L;
        }

        // ---- arguments

        void addArgument(int command, int kind, long name) {
            if (!isCommand(command) || arguments < 0 || arguments >= MAX_TEXT) {
                return;
            }
            argumentKinds[arguments] = kind;
            argumentNames[arguments] = name;
            if (argumentCounts[command] == 0) {
                firstArguments[command] = arguments;
            }
            argumentCounts[command]++;
            arguments++;
        }

        int argumentsOf(int command) {
            return isCommand(command) ? argumentCounts[command] : 0;
        }

        /** The place of an argument of a command; NONE if there is none. */
        int argumentAt(int command, int index) {
            if (!isCommand(command) || index < 0 || index >= argumentCounts[command]) {
                return NONE;
            }
            return firstArguments[command] + index;
        }

        int argumentKind(int at) {
            return at >= 0 && at < arguments && at < MAX_TEXT ? argumentKinds[at] : WORD;
        }

        long argumentName(int at) {
            return at >= 0 && at < arguments && at < MAX_TEXT ? argumentNames[at] : 0L;
        }

        // ---- redirections

        void addRedirection(int command, int kind, int handle, long name) {
            if (!isCommand(command) || redirectionsMade < 0 || redirectionsMade >= MAX_TEXT) {
                return;
            }
            redirections[redirectionsMade] = kind * HANDLES + handle;
            redirectionNames[redirectionsMade] = name;
            if (redirectionCounts[command] == 0) {
                firstRedirections[command] = redirectionsMade;
            }
            redirectionCounts[command]++;
            redirectionsMade++;
        }

        int redirectionsOf(int command) {
            return isCommand(command) ? redirectionCounts[command] : 0;
        }

        int redirectionAt(int command, int index) {
            if (!isCommand(command) || index < 0 || index >= redirectionCounts[command]) {
                return NONE;
            }
            return firstRedirections[command] + index;
        }

        int redirectionKind(int at) {
            return at >= 0 && at < MAX_TEXT ? redirections[at] / HANDLES : CLOSE;
        }

        int redirectedHandle(int at) {
            return at >= 0 && at < MAX_TEXT ? redirections[at] % HANDLES : NONE;
        }

        /** The name of the file, or the number of the other handle. */
        long redirectionName(int at) {
            return at >= 0 && at < MAX_TEXT ? redirectionNames[at] : 0L;
        }
    }

    /** Reads a text token by token, and writes the code for it. */
    private static final class Parser {
        private static final int MAX_DEPTH = 5;

        private static final int END_OF_TEXT = 0;
        private static final int WORD = 1;
        private static final int WRONG = 2;
        // A token of two bytes; one of a single byte other than a word is that byte.
        private static final int AND_THEN = 256;
        private static final int OR_ELSE = 257;
        private static final int BEHIND = 258;
        private static final int SAME_INPUT = 259;
        private static final int SAME_OUTPUT = 260;

        // The values of the words.
        private static final long IF = 339L;
        private static final long THEN = 1024211L;
        private static final long ELSE = 270401L;
        private static final long FI = 231L;
        private static final long WHILE = 43523697L;
        private static final long DO = 163L;
        private static final long DONE = 223670L;
        private static final long DEF = 5667L;

        private final byte[] text;
        private int length;
        private Program program;
        private int token;
        private int tokenStart;
        private int tokenEnd;
        private long tokenName;
        int errorKind;
        int errorOffset;

        Parser(byte[] text) {
            this.text = text;
            errorOffset = NONE;
        }

        /** Answers the number of chains outside of bodies; throws if the text does not match. */
        int parse(int textLength, Program target) {
            length = Math.min(textLength, text.length);
            program = target;
            errorKind = 0;
            errorOffset = NONE;
            tokenEnd = 0;
            target.makeEmpty();
            advance();
            int chains = script(0);
            expect(END_OF_TEXT);
            target.emit(Program.END);
            return chains;
        }

        private void fail(int kind) {
            errorKind = kind;
            errorOffset = tokenStart;
            throw new IllegalArgumentException("the text is no script");
        }

        // ---- tokens

        private int byteAt(int at) {
            return at >= 0 && at < length && at < text.length ? text[at] & 255 : NONE;
        }

        private static boolean isBlank(int b) {
            return b == ' ' || b == '\t' || b == LINE_FEED;
        }

        private void advance() {
            int at = tokenEnd;
            while (at < length && isBlank(byteAt(at))) {
                at++;
            }
            tokenStart = at;
            int first = byteAt(at);
            if (first < 0) {
                token = END_OF_TEXT;
                tokenEnd = at;
            } else if (letterValue(first) > 0) {
                readWord();
            } else {
                readSign(first, byteAt(at + 1));
            }
        }

        private void readWord() {
            token = WORD;
            tokenName = 0L;
            int at = tokenStart;
            while (at < length && letterValue(byteAt(at)) > 0) {
                tokenName = 37L * tokenName + letterValue(byteAt(at));
                at++;
            }
            tokenEnd = at;
            // No place of the grammar takes such a word, so it is wrong wherever it comes.
            if (tokenEnd - tokenStart > MAX_WORD) {
                fail(TOO_LONG);
            }
        }

        private void readSign(int first, int second) {
            token = signOfTwo(first, second);
            tokenEnd = tokenStart + 2;
            if (token == WRONG) {
                token = isSign(first) ? first : WRONG;
                tokenEnd = tokenStart + 1;
            }
        }

        private static int signOfTwo(int first, int second) {
            if (first == '&' && second == '&') {
                return AND_THEN;
            }
            if (first == '|' && second == '|') {
                return OR_ELSE;
            }
            if (first == '>' && second == '>') {
                return BEHIND;
            }
            if (first == '<' && second == '&') {
                return SAME_INPUT;
            }
            return first == '>' && second == '&' ? SAME_OUTPUT : WRONG;
        }

        private static boolean isSign(int b) {
            switch (b) {
                case ';': case '&': case '|': case '!': case '(': case ')': case '{': case '}':
                case '<': case '>': case '=': case '-': case '$': case '?':
                    return true;
                default:
                    return false;
            }
        }

        private void expect(int wanted) {
            if (token != wanted) {
                fail(SYNTAX);
            }
            if (token != END_OF_TEXT) {
                advance();
            }
        }

        private boolean isWord(long word) {
            return token == WORD && tokenName == word;
        }

        private void expectWord(long word) {
            if (!isWord(word)) {
                fail(SYNTAX);
            }
            advance();
        }

        private static boolean opensBody(long word) {
            return word == IF || word == WHILE || word == DEF;
        }

        private static boolean continuesBody(long word) {
            return word == THEN || word == ELSE || word == FI || word == DO || word == DONE;
        }

        /** Whether the token is a word of one digit. */
        private boolean isDigit() {
            int b = byteAt(tokenStart);
            return token == WORD && tokenEnd == tokenStart + 1 && b >= '0' && b <= '9';
        }

        private int digit() {
            int value = byteAt(tokenStart) - '0';
            return value >= 0 && value < HANDLES ? value : 0;
        }

        // ---- scripts, chains and pipelines; depth is the number of bodies around

        private int script(int depth) {
            int chains = 0;
            while (chains < MAX_TEXT && startsChain()) {
                scriptChain(depth);
                chains++;
            }
            if (chains == 0) {
                program.emit(Program.ZERO);
            }
            return chains;
        }

        private boolean startsChain() {
            if (token == WORD) {
                return !continuesBody(tokenName);
            }
            return token == '!' || token == '(' || token == '{';
        }

        private void scriptChain(int depth) {
            int start = program.emit(Program.NOTHING);
            chain(depth);
            if (token == '&') {
                program.become(start, Program.JOB);
                program.emit(Program.END);
                program.aim(start, program.size);
                advance();
            } else {
                expect(';');
            }
        }

        private void chain(int depth) {
            pipeline(depth);
            for (int i = 0; i < MAX_TEXT && (token == AND_THEN || token == OR_ELSE); i++) {
                int jump = token == AND_THEN ? Program.JUMP_IF_FAILED : Program.JUMP_IF_ZERO;
                int skip = program.emit(jump);
                advance();
                pipeline(depth);
                program.aim(skip, program.size);
            }
        }

        private void pipeline(int depth) {
            boolean turned = token == '!';
            if (turned) {
                advance();
            }
            int piped = program.emit(Program.NOTHING);
            command(depth);
            if (token == '|') {
                program.become(piped, Program.FIRST_PIPED);
                for (int i = 0; i < MAX_TEXT && token == '|'; i++) {
                    endPiped(piped);
                    advance();
                    piped = program.emit(Program.NEXT_PIPED);
                    command(depth);
                }
                program.become(piped, Program.LAST_PIPED);
                endPiped(piped);
                program.emit(Program.PIPED);
            }
            if (turned) {
                program.emit(Program.NOT);
            }
        }

        private void endPiped(int piped) {
            program.emit(Program.END);
            program.aim(piped, program.size);
        }

        // ---- commands

        private void command(int depth) {
            int command = program.addCommand(tokenStart);
            int begin = program.emitFor(Program.BEGIN, command);
            body(command, depth);
            for (int i = 0; i < MAX_TEXT && startsRedirection(); i++) {
                redirection(command);
            }
            program.emitFor(Program.FINISH, command);
            program.aim(begin, program.size);
        }

        private void body(int command, int depth) {
            if (token == '(' || token == '{' || token == WORD && opensBody(tokenName)) {
                if (depth >= MAX_DEPTH) {
                    fail(TOO_DEEP);
                }
                compound(command, depth + 1);
            } else if (token == WORD && !continuesBody(tokenName)) {
                named(command);
            } else {
                fail(SYNTAX);
            }
        }

        private void compound(int command, int depth) {
            if (token == '(') {
                parenthesis(depth);
            } else if (token == '{') {
                advance();
                script(depth);
                expect('}');
            } else if (isWord(IF)) {
                condition(depth);
            } else if (isWord(WHILE)) {
                loop(depth);
            } else {
                definition(command, depth);
            }
        }

        private void parenthesis(int depth) {
            advance();
            int fork = program.emit(Program.FORK);
            script(depth);
            expect(')');
            program.emit(Program.END);
            program.aim(fork, program.size);
        }

        private void condition(int depth) {
            advance();
            chain(depth);
            expect(';');
            expectWord(THEN);
            int toElse = program.emit(Program.JUMP_IF_FAILED);
            script(depth);
            int toEnd = program.emit(Program.JUMP);
            program.aim(toElse, program.size);
            if (isWord(ELSE)) {
                advance();
                script(depth);
            } else {
                program.emit(Program.ZERO);
            }
            program.aim(toEnd, program.size);
            expectWord(FI);
        }

        private void loop(int depth) {
            advance();
            program.emit(Program.LOOP);
            int top = program.size;
            chain(depth);
            expect(';');
            expectWord(DO);
            int test = program.emit(Program.LOOP_TEST);
            script(depth);
            program.aim(program.emit(Program.LOOP_AGAIN), top);
            program.aim(test, program.size);
            expectWord(DONE);
        }

        private void definition(int command, int depth) {
            advance();
            if (token != WORD || opensBody(tokenName) || continuesBody(tokenName)
                    || Commands.kindOf(tokenName) != Commands.FUNCTION) {
                fail(SYNTAX);
            }
            program.setBody(command, Program.COMPOUND, tokenName);
            advance();
            expect('{');
            int define = program.emitFor(Program.DEFINE, command);
            script(depth);
            expect('}');
            program.emit(Program.RETURN);
            program.aim(define, program.size);
        }

        private void named(int command) {
            long name = tokenName;
            advance();
            if (token == '=') {
                advance();
                program.setBody(command, Program.ASSIGNMENT, name);
                argument(command);
                program.emitFor(Program.ASSIGN, command);
                return;
            }
            program.setBody(command, Commands.kindOf(name), name);
            for (int i = 0; i < MAX_TEXT && startsArgument(); i++) {
                argument(command);
            }
            program.emitFor(Program.CALL, command);
        }

        private boolean startsArgument() {
            return token == '$' || token == WORD && !startsRedirection();
        }

        private void argument(int command) {
            if (token == WORD) {
                program.addArgument(command, Program.WORD, tokenName);
                advance();
                return;
            }
            if (token != '$') {
                fail(SYNTAX);
            }
            advance();
            if (token == WORD) {
                program.addArgument(command, Program.VARIABLE, tokenName);
            } else if (token == '?') {
                program.addArgument(command, Program.STATUS, 0L);
            } else {
                fail(SYNTAX);
            }
            advance();
        }

        // ---- redirections

        private boolean startsRedirection() {
            if (isDigit()) {
                int next = byteAt(tokenEnd);
                return next == '<' || next == '>';
            }
            return token == '<' || token == '>' || token == BEHIND || token == SAME_INPUT || token == SAME_OUTPUT;
        }

        private void redirection(int command) {
            int handle = NONE;
            if (token == WORD) {
                handle = digit();
                advance();
            }
            int sign = token;
            if (handle < 0) {
                handle = sign == '<' || sign == SAME_INPUT ? 0 : 1;
            }
            advance();
            if (sign == SAME_INPUT || sign == SAME_OUTPUT) {
                target(command, handle);
                return;
            }
            if (token != WORD) {
                fail(SYNTAX);
            }
            int toFile = sign == BEHIND ? Program.BEHIND_FILE : Program.TO_FILE;
            program.addRedirection(command, sign == '<' ? Program.FROM_FILE : toFile, handle, tokenName);
            advance();
        }

        private void target(int command, int handle) {
            if (token == '-') {
                program.addRedirection(command, Program.CLOSE, handle, 0L);
            } else if (isDigit()) {
                program.addRedirection(command, Program.SAME_AS, handle, digit());
            } else {
                fail(SYNTAX);
            }
            advance();
        }
    }

    /** The commands that leave the order of execution as it is, and the values of arguments. */
    private static final class Commands {
        static final int FUNCTION = 0;
        static final int TRUE = 1;
        static final int FALSE = 2;
        static final int ECHO = 3;
        static final int READ = 4;
        static final int CAT = 5;
        static final int EXEC = 6;
        static final int TRAP = 7;
        static final int SET = 8;
        static final int EXIT = 9;
        static final int RAISE = 10;
        static final int WAIT = 11;
        static final int FG = 12;

        /** Instead of a status: the shell ends, because it read from the terminal in the background. */
        static final int READ_IN_BACKGROUND = -2;
        static final int FAILED = 1;
        static final int WRONG_ARGUMENTS = 2;

        // In the order of the kinds: true false echo read cat exec trap set exit raise wait fg.
        private static final long[] NAMES = {
            1038484L, 11312755L, 257683L, 918640L, 4164L, 286309L,
            1037755L, 26216L, 286474L, 33798580L, 1166741L, 229L};
        // In the order of their numbers: hup int term exit.
        private static final long[] SIGNAL_NAMES = {11745L, 12859L, 1020584L, 286474L};
        private static final long DEFAULT = 10620950253L;
        private static final long IGNORE = 637945088L;
        private static final long PIPEFAIL = 1543120751558L;
        private static final long ON = 569L;
        private static final long OFF = 20763L;

        // What reading answers instead of a line.
        private static final int AT_END = -1;
        private static final int CANNOT_READ = -2;
        private static final int NOT_IN_BACKGROUND = -3;

        private final World world;
        private final Channels channels;
        private final Lines lines;
        private final byte[] text;
        private int length;

        Commands(World world, Channels channels, Lines lines) {
            this.world = world;
            this.channels = channels;
            this.lines = lines;
            text = new byte[MAX_LINE];
        }

        static int kindOf(long name) {
            for (int i = 0; i < NAMES.length; i++) {
                if (NAMES[i] == name) {
                    return i + 1;
                }
            }
            return FUNCTION;
        }

        /** The number of the signal with the name; NONE if there is none. */
        static int signalNamed(long name) {
            for (int i = 0; i < SIGNALS; i++) {
                if (SIGNAL_NAMES[i] == name) {
                    return i;
                }
            }
            return NONE;
        }

        // ---- arguments

        private void addArgument(Program program, Shell shell, int at) {
            if (at < 0) {
                return;
            }
            int kind = program.argumentKind(at);
            long name = program.argumentName(at);
            if (kind == Program.WORD) {
                length = spell(name, text, length);
            } else if (kind == Program.STATUS) {
                length = spell(nameOfNumber(shell.status), text, length);
            } else {
                int index = shell.variables.find(name);
                if (index >= 0) {
                    length = lines.copyTo(shell.variables.valueAt(index), text, length);
                }
            }
        }

        /** The name that has the digits of a status. */
        private static long nameOfNumber(int number) {
            long name = 0L;
            if (number >= 100) {
                name = 27L + number / 100 % 10;
            }
            if (number >= 10) {
                name = 37L * name + 27L + number / 10 % 10;
            }
            return 37L * name + 27L + number % 10;
        }

        /** The name that an argument is; 0 if it is none. */
        long nameArgument(Program program, Shell shell, int command, int index) {
            length = 0;
            addArgument(program, shell, program.argumentAt(command, index));
            return nameIn(text, length);
        }

        /** The number that an argument is; NONE if it is none. */
        int numberArgument(Program program, Shell shell, int command, int index) {
            length = 0;
            addArgument(program, shell, program.argumentAt(command, index));
            return numberIn(text, length);
        }

        // ---- commands, each of which answers its status

        int assign(Program program, Shell shell, int command) {
            length = 0;
            addArgument(program, shell, program.argumentAt(command, 0));
            return shell.variables.put(program.nameOf(command), lines.make(text, 0, length)) ? 0 : FAILED;
        }

        int echo(Program program, Shell shell, int command) {
            length = 0;
            int count = program.argumentsOf(command);
            for (int i = 0; i < count; i++) {
                if (i > 0 && length >= 0 && length < MAX_LINE) {
                    text[length] = ' ';
                    length++;
                }
                addArgument(program, shell, program.argumentAt(command, i));
            }
            return writeLine(shell, lines.make(text, 0, length)) ? 0 : FAILED;
        }

        int read(Program program, Shell shell, int command) {
            long name = nameArgument(program, shell, command, 0);
            if (program.argumentsOf(command) != 1 || name == 0L) {
                return WRONG_ARGUMENTS;
            }
            int line = readLine(shell);
            if (line == NOT_IN_BACKGROUND) {
                return READ_IN_BACKGROUND;
            }
            if (line == AT_END) {
                shell.variables.put(name, Lines.EMPTY);
                return FAILED;
            }
            return line >= 0 && shell.variables.put(name, line) ? 0 : FAILED;
        }

        int cat(Program program, Shell shell, int command) {
            if (program.argumentsOf(command) != 0) {
                return WRONG_ARGUMENTS;
            }
            int line = readLine(shell);
            for (int i = 0; i < Channels.MAX_NODES && line >= 0; i++) {
                if (!writeLine(shell, line)) {
                    return FAILED;
                }
                line = readLine(shell);
            }
            if (line == NOT_IN_BACKGROUND) {
                return READ_IN_BACKGROUND;
            }
            return line == AT_END ? 0 : FAILED;
        }

        int trap(Program program, Shell shell, int command) {
            long action = nameArgument(program, shell, command, 0);
            int signal = signalNamed(nameArgument(program, shell, command, 1));
            if (program.argumentsOf(command) != 2 || action == 0L || signal < 0 || signal >= SIGNALS) {
                return WRONG_ARGUMENTS;
            }
            if (action == DEFAULT) {
                shell.actions[signal] = DEFAULT_ACTION;
            } else {
                shell.actions[signal] = action == IGNORE ? IGNORE_ACTION : action;
            }
            return 0;
        }

        int set(Program program, Shell shell, int command) {
            long option = nameArgument(program, shell, command, 0);
            long value = nameArgument(program, shell, command, 1);
            if (program.argumentsOf(command) != 2 || option != PIPEFAIL || value != ON && value != OFF) {
                return WRONG_ARGUMENTS;
            }
            shell.pipefail = value == ON;
            return 0;
        }

        // ---- lines

        private int readLine(Shell shell) {
            OpenFile source = shell.handles.at(0);
            if (source == null) {
                return CANNOT_READ;
            }
            switch (source.kind) {
                case TERMINAL: return shell.background ? NOT_IN_BACKGROUND : lineOrEnd(world.takeInput());
                case READING:
                    int line = world.lineAt(source.file, source.position);
                    source.position += line < 0 ? 0 : 1;
                    return lineOrEnd(line);
                case PIPE_OUTLET: return lineOrEnd(channels.takeFrom(source.pipe));
                default: return CANNOT_READ;
            }
        }

        private static int lineOrEnd(int line) {
            return line < 0 ? AT_END : line;
        }

        private boolean writeLine(Shell shell, int line) {
            OpenFile target = shell.handles.at(1);
            if (target == null) {
                return false;
            }
            switch (target.kind) {
                case TERMINAL: return world.addOutput(line);
                case WRITING:
                    boolean written = world.putLine(target.file, target.position, line);
                    target.position += written ? 1 : 0;
                    return written;
                case APPENDING: return world.putLine(target.file, world.fileLength(target.file), line);
                case PIPE_INLET: return channels.putIn(target.pipe, line);
                default: return false;
            }
        }
    }

    /** Executes code with a stack of its own, so that no nesting of a script nests its own calls. */
    private static final class Machine {
        private static final int MAX_BEGUN = 300;
        private static final int MAX_NESTING = 4;
        // Far more than 300 commands of a text of 700 bytes can need.
        private static final int MAX_STEPS = 10000000;
        // A begun command has at most a frame for its redirections, one for its body, one for its pipeline and two
        // for subshells; a subshell at most one more for its exit function.
        private static final int MAX_FRAMES = 3000;
        private static final int FRAME = 4;

        // Kinds of frames, and behind them what stands in one.
        private static final int REDIRECTED = 1;
        private static final int CALLED = 2; // where it goes on
        private static final int RAISED = 3; // where it goes on
        private static final int AT_EXIT = 4; // where it goes on
        private static final int LOOPING = 5; // the status of the latest turn
        private static final int PIPING = 6; // the last status, the rightmost one other than 0, the latest pipe
        private static final int SUBSHELL = 7; // where it goes on, the purpose, the job

        // Purposes of subshells: one job is run for its status, all jobs are run one by one for none.
        private static final int FOR_BODY = 0;
        private static final int FOR_PIPELINE = 1;
        private static final int FOR_ONE_JOB = 2;
        private static final int FOR_ALL_JOBS = 3;

        private final World world;
        private final Channels channels;
        private final Commands commands;
        private final int[] frames;
        private int top;
        private final Handles[] saved;
        private int savedCount;
        private final Handles firstHandles;
        private Shell freeShells;
        private Program program;
        private Shell shell;
        private int place;
        private boolean running;

        Machine(World world, Channels channels, Lines lines) {
            this.world = world;
            this.channels = channels;
            commands = new Commands(world, channels, lines);
            frames = new int[MAX_FRAMES * FRAME];
            saved = new Handles[MAX_BEGUN];
            firstHandles = new Handles(channels);
            shell = world.main;
        }

        void execute(Program script) {
            program = script;
            shell = world.main;
            shell.prepare();
            world.forgetRun();
            channels.forgetPipes();
            firstHandles.copyFrom(shell.handles);
            top = 0;
            savedCount = 0;
            place = 0;
            running = true;
            for (int i = 0; i < MAX_STEPS && running; i++) {
                doStep();
            }
            letGo();
        }

        /** The limit: no end of any shell takes place. */
        private void stop() {
            world.stopped = true;
            world.main.handles.copyFrom(firstHandles);
            running = false;
        }

        /** Frees what a stop may have left behind. */
        private void letGo() {
            for (int i = 0; i < MAX_FRAMES && shell != world.main && shell.parent != null; i++) {
                Shell parent = shell.parent;
                releaseJobs(shell);
                release(shell);
                shell = parent;
            }
            releaseJobs(world.main);
            for (int i = 0; i < savedCount && i < MAX_BEGUN; i++) {
                if (saved[i] != null) {
                    saved[i].closeAll();
                }
            }
            savedCount = 0;
            firstHandles.closeAll();
        }

        private void doStep() {
            int at = place;
            int operand = program.operandAt(at);
            int target = program.targetAt(at);
            place = at + 1;
            switch (program.stepAt(at)) {
                case Program.BEGIN: begin(operand, target); break;
                case Program.FINISH: finish(operand); break;
                case Program.CALL: call(operand); break;
                case Program.ASSIGN: shell.status = commands.assign(program, shell, operand); break;
                case Program.DEFINE: define(operand, target); break;
                case Program.RETURN: returnFromCall(); break;
                case Program.ZERO: shell.status = 0; break;
                case Program.NOT: shell.status = shell.status == 0 ? 1 : 0; break;
                case Program.JUMP: place = target; break;
                case Program.JUMP_IF_ZERO: jumpIf(shell.status == 0, target); break;
                case Program.JUMP_IF_FAILED: jumpIf(shell.status != 0, target); break;
                case Program.LOOP: push(LOOPING, 0, 0, 0); break;
                case Program.LOOP_TEST: testLoop(target); break;
                case Program.LOOP_AGAIN: setField(1, shell.status); place = target; break;
                case Program.FORK: enter(fork(), FOR_BODY, target, 0); break;
                case Program.JOB: makeJob(target); break;
                case Program.FIRST_PIPED: push(PIPING, 0, 0, NONE); forkPiped(false, target); break;
                case Program.NEXT_PIPED: forkPiped(false, target); break;
                case Program.LAST_PIPED: forkPiped(true, target); break;
                case Program.PIPED: finishPipeline(); break;
                case Program.END: endShell(); break;
                default: break;
            }
        }

        private void jumpIf(boolean jumps, int target) {
            if (jumps) {
                place = target;
            }
        }

        // ---- frames

        private void push(int kind, int first, int second, int third) {
            if (top < 0 || top >= MAX_FRAMES) {
                running = false;
                return;
            }
            int at = top * FRAME;
            frames[at] = kind;
            frames[at + 1] = first;
            frames[at + 2] = second;
            frames[at + 3] = third;
            top++;
        }

        /** A field of the uppermost frame. */
        private int field(int index) {
            int at = (top - 1) * FRAME + index;
            return at >= 0 && at < frames.length ? frames[at] : 0;
        }

        private void setField(int index, int value) {
            int at = (top - 1) * FRAME + index;
            if (at >= 0 && at < frames.length) {
                frames[at] = value;
            }
        }

        private void pop() {
            if (top > 0) {
                top--;
            }
        }

        // ---- commands

        private void begin(int command, int behind) {
            if (world.begun >= MAX_BEGUN) {
                stop();
                return;
            }
            world.begun++;
            if (program.redirectionsOf(command) == 0) {
                return;
            }
            saveHandles();
            int count = program.redirectionsOf(command);
            for (int i = 0; i < count; i++) {
                if (!redirect(program.redirectionAt(command, i))) {
                    setBackHandles(true);
                    shell.status = Commands.FAILED;
                    record(command);
                    place = behind;
                    return;
                }
            }
        }

        private void finish(int command) {
            if (program.redirectionsOf(command) > 0) {
                boolean stay = program.kindOf(command) == Commands.EXEC && program.argumentsOf(command) == 0;
                setBackHandles(!stay);
            }
            record(command);
        }

        private void record(int command) {
            if (program.kindOf(command) != Program.COMPOUND) {
                world.addRecord(program.offsetOf(command), shell.status, shell.depth);
            }
        }

        private void saveHandles() {
            push(REDIRECTED, 0, 0, 0);
            if (savedCount < 0 || savedCount >= MAX_BEGUN) {
                return;
            }
            if (saved[savedCount] == null) {
                saved[savedCount] = new Handles(channels);
            }
            saved[savedCount].copyFrom(shell.handles);
            savedCount++;
        }

        /** Leaves the uppermost frame, which is one of redirections. */
        private void setBackHandles(boolean back) {
            pop();
            if (savedCount <= 0 || savedCount > MAX_BEGUN) {
                return;
            }
            savedCount--;
            Handles before = saved[savedCount];
            if (before == null) {
                return;
            }
            if (back) {
                shell.handles.copyFrom(before);
            }
            before.closeAll();
        }

        private boolean redirect(int at) {
            int handle = program.redirectedHandle(at);
            long name = program.redirectionName(at);
            switch (program.redirectionKind(at)) {
                case Program.FROM_FILE: return openFile(handle, READING, world.findFile(name));
                case Program.TO_FILE:
                    int file = world.findOrMake(name);
                    world.loseLines(file);
                    return openFile(handle, WRITING, file);
                case Program.BEHIND_FILE: return openFile(handle, APPENDING, world.findOrMake(name));
                case Program.SAME_AS: return share(handle, shell.handles.at((int) name));
                default: shell.handles.put(handle, null); return true;
            }
        }

        private boolean openFile(int handle, int kind, int file) {
            if (file < 0) {
                return false;
            }
            shell.handles.put(handle, channels.open(kind, file, NONE, 0));
            return true;
        }

        private boolean share(int handle, OpenFile opened) {
            if (opened == null) {
                return false;
            }
            shell.handles.put(handle, opened);
            return true;
        }

        private void call(int command) {
            switch (program.kindOf(command)) {
                case Commands.FUNCTION: callFunction(program.nameOf(command)); break;
                case Commands.TRUE: shell.status = 0; break;
                case Commands.FALSE: shell.status = Commands.FAILED; break;
                case Commands.ECHO: shell.status = commands.echo(program, shell, command); break;
                case Commands.READ: goOnOrEnd(commands.read(program, shell, command)); break;
                case Commands.CAT: goOnOrEnd(commands.cat(program, shell, command)); break;
                case Commands.EXEC: shell.status = program.argumentsOf(command) == 0 ? 0 : Commands.WRONG_ARGUMENTS; break;
                case Commands.TRAP: shell.status = commands.trap(program, shell, command); break;
                case Commands.SET: shell.status = commands.set(program, shell, command); break;
                case Commands.EXIT: exit(command); break;
                case Commands.RAISE: raise(command); break;
                case Commands.WAIT:
                    if (program.argumentsOf(command) == 0) {
                        waitForAll();
                    } else {
                        waitForOne(command, true);
                    }
                    break;
                case Commands.FG: waitForOne(command, shell.background); break;
                default: break;
            }
        }

        private void goOnOrEnd(int status) {
            if (status == Commands.READ_IN_BACKGROUND) {
                endWith(149);
            } else {
                shell.status = status;
            }
        }

        private void exit(int command) {
            int count = program.argumentsOf(command);
            int number = commands.numberArgument(program, shell, command, 0);
            if (count == 0) {
                endWith(shell.status);
            } else if (count == 1 && number >= 0) {
                endWith(number % 256);
            } else {
                shell.status = Commands.WRONG_ARGUMENTS;
            }
        }

        /** The step at the end of the code leaves what the shell is in, wherever that is. */
        private void endWith(int status) {
            shell.status = status;
            place = program.end();
        }

        // ---- functions

        private void define(int command, int behind) {
            shell.status = shell.functions.put(program.nameOf(command), place) ? 0 : Commands.FAILED;
            place = behind;
        }

        private void callFunction(long name) {
            int function = shell.functions.find(name);
            if (function < 0) {
                shell.status = 127;
            } else if (shell.nesting >= MAX_NESTING) {
                shell.status = 126;
            } else {
                enterFunction(CALLED, function);
            }
        }

        private void enterFunction(int kind, int function) {
            push(kind, place, 0, 0);
            shell.nesting++;
            place = shell.functions.valueAt(function);
        }

        /** Calls the function of an action; false if there is none or if calls nest too deep. */
        private boolean callForTrap(int kind, long name) {
            int function = shell.functions.find(name);
            if (function < 0 || shell.nesting >= MAX_NESTING) {
                return false;
            }
            enterFunction(kind, function);
            return true;
        }

        private void returnFromCall() {
            int kind = field(0);
            place = field(1);
            pop();
            shell.nesting--;
            if (kind == RAISED) {
                shell.status = 0;
            } else if (kind == AT_EXIT) {
                shell.status = shell.endStatus;
            }
        }

        private void raise(int command) {
            int signal = Commands.signalNamed(commands.nameArgument(program, shell, command, 0));
            if (program.argumentsOf(command) != 1 || signal < 0 || signal >= EXIT_SIGNAL) {
                shell.status = Commands.WRONG_ARGUMENTS;
                return;
            }
            long action = shell.actions[signal];
            if (action == DEFAULT_ACTION) {
                endWith(128 + (signal == 2 ? 15 : signal + 1));
            } else if (action == IGNORE_ACTION || !callForTrap(RAISED, action)) {
                shell.status = 0;
            }
        }

        // ---- loops

        private void testLoop(int behind) {
            if (shell.status != 0) {
                shell.status = field(1);
                pop();
                place = behind;
            }
        }

        // ---- subshells

        private Shell fork() {
            Shell child = freeShells;
            if (child == null) {
                child = new Shell(channels);
            } else {
                freeShells = child.parent;
            }
            child.inheritFrom(shell);
            world.forks++;
            return child;
        }

        private void enter(Shell child, int purpose, int behind, int job) {
            push(SUBSHELL, behind, purpose, job);
            child.parent = shell;
            child.base = top;
            shell = child;
        }

        /** A free shell has the next free one as its parent. */
        private void release(Shell child) {
            child.handles.closeAll();
            child.parent = freeShells;
            freeShells = child;
        }

        private void releaseJobs(Shell owner) {
            for (int job = 0; job < Shell.MAX_JOBS; job++) {
                Shell child = owner.takeJob(job);
                if (child != null) {
                    release(child);
                }
            }
        }

        private void forkPiped(boolean last, int behind) {
            int before = field(3);
            Shell child = fork();
            if (before >= 0) {
                child.handles.put(0, channels.open(PIPE_OUTLET, NONE, before, 0));
            }
            if (!last) {
                int pipe = channels.makePipe();
                child.handles.put(1, channels.open(PIPE_INLET, NONE, pipe, 0));
                setField(3, pipe);
            }
            enter(child, FOR_PIPELINE, behind, 0);
        }

        private void finishPipeline() {
            shell.status = shell.pipefail ? field(2) : field(1);
            pop();
        }

        // ---- jobs

        private void makeJob(int behind) {
            if (shell.jobCount >= Shell.MAX_JOBS) {
                shell.status = 1;
            } else if (shell.addJob(fork(), place)) {
                shell.status = 0;
            }
            place = behind;
        }

        /** Runs a job that has not been run; false if there is no such job. */
        private boolean runJob(int job, int purpose, boolean background) {
            int start = shell.startOfJob(job);
            Shell child = shell.takeJob(job);
            if (child == null) {
                return false;
            }
            child.background = background;
            enter(child, purpose, place, job);
            place = start;
            return true;
        }

        private void waitForAll() {
            // This step comes again behind each job, until none is left.
            int behind = place;
            place = behind - 1;
            if (!runJob(shell.firstWaiting(), FOR_ALL_JOBS, true)) {
                place = behind;
                shell.status = 0;
            }
        }

        private void waitForOne(int command, boolean background) {
            int number = commands.numberArgument(program, shell, command, 0);
            if (program.argumentsOf(command) != 1 || number < 0) {
                shell.status = Commands.WRONG_ARGUMENTS;
            } else if (!runJob(number - 1, FOR_ONE_JOB, background)) {
                shell.status = 127;
            }
        }

        // ---- the end of a shell

        /** Goes on where the end of the shell has come to: first its exit function, then its jobs one by one. */
        private void endShell() {
            unwind();
            shell.nesting = shell.firstNesting;
            place = program.end();
            if (!shell.ending) {
                shell.ending = true;
                if (callExitFunction()) {
                    return;
                }
            }
            if (!runJob(shell.firstWaiting(), FOR_ALL_JOBS, true)) {
                leave();
            }
        }

        /** Leaves the frames of the shell that ends; its handles become what they were before its commands. */
        private void unwind() {
            for (int i = 0; i < MAX_FRAMES && top > shell.base && top > 0; i++) {
                if (field(0) == REDIRECTED) {
                    setBackHandles(true);
                } else {
                    pop();
                }
            }
        }

        private boolean callExitFunction() {
            long action = shell.actions[EXIT_SIGNAL];
            if (action == DEFAULT_ACTION || action == IGNORE_ACTION) {
                return false;
            }
            shell.actions[EXIT_SIGNAL] = DEFAULT_ACTION;
            shell.endStatus = shell.status;
            return callForTrap(AT_EXIT, action);
        }

        /** Gives the status of the shell to the one for which it was executed, which goes on. */
        private void leave() {
            Shell child = shell;
            if (child.parent == null) {
                running = false;
                return;
            }
            int status = child.status;
            place = field(1);
            int purpose = field(2);
            int job = field(3);
            pop();
            shell = child.parent;
            release(child);
            switch (purpose) {
                case FOR_BODY: shell.status = status; break;
                case FOR_PIPELINE: noteInPipeline(status); break;
                case FOR_ONE_JOB: shell.keepJobStatus(job, status); shell.status = status; break;
                default: shell.keepJobStatus(job, status); break;
            }
        }

        private void noteInPipeline(int status) {
            setField(1, status);
            if (status != 0) {
                setField(2, status);
            }
        }
    }
}
