/** The calls that README.md shows, with the answers that it tells; ends with 1 if one is another. */
public final class Example {
    private static int wrong;

    private static void due(String call, int got, int want) {
        if (got != want) {
            wrong++;
            System.out.println(call + " answered " + got + ", README.md tells " + want);
        }
    }

    private static void script() {
        ShellCore core = new ShellCore();
        due("append", core.append(0x72656164, 0x20783b20, 0x6563686f, 0x20247820, 0x3e703b00), 20);
        due("truncate", core.truncate(19) ? 1 : 0, 1);
        due("load", core.load(), 2);
        due("append", core.append(0x68690a00, 0, 0, 0, 0), 20);
        due("truncate", core.truncate(3) ? 1 : 0, 1);
        due("type", core.type(), 1);
        due("run", core.run(), 0);
        due("begun", core.begun(), 2);
        due("fileNamed", core.fileNamed(16), 0);
        due("lineCount", core.lineCount(0), 1);
        due("formatLine", core.formatLine(0, 0), 2);
        due("formattedByte", core.formattedByte(0), 104);
        due("formattedByte", core.formattedByte(1), 105);
        due("formattedByte", core.formattedByte(2), -1);
        due("formatVariable", core.formatVariable(24), 2);
        due("traceField", core.traceField(1, 0), 8);
        due("undo", core.undo(), 1);
        due("fileCount", core.fileCount(), 0);
    }

    private static void error() {
        ShellCore core = new ShellCore();
        core.append(0x61203b29, 0, 0, 0, 0);
        core.truncate(4);
        int refused = 0;
        try {
            core.load();
        } catch (IllegalArgumentException e) {
            refused = 1;
        }
        due("load throws", refused, 1);
        due("errorKind", core.errorKind(), ShellCore.SYNTAX);
        due("errorOffset", core.errorOffset(), 3);
    }

    public static void main(String[] args) {
        script();
        error();
        System.out.println(wrong == 0 ? "all answers are as README.md tells" : wrong + " answers are not");
        if (wrong != 0) {
            System.exit(1);
        }
    }
}
