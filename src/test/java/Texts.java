/** Makes script texts: always the same ones for the same seed. */
final class Texts {
    static final String[] VARIABLES = {"x", "y", "z", "a1", "if", "echo"};
    static final String[] FUNCTIONS = {"f", "g", "h", "k"};
    static final String[] FILES = {"p", "q", "r", "done", "3"};
    static final String[] SIGNALS = {"hup", "int", "term", "exit"};

    private long seed;
    private StringBuilder text;
    private boolean many;

    Texts(long seed) {
        this.seed = seed * 6364136223846793005L + 1442695040888963407L;
    }

    int below(int bound) {
        seed = seed * 6364136223846793005L + 1442695040888963407L;
        return (int) ((seed >>> 33) % bound);
    }

    private String one(String[] of) {
        return of[below(of.length)];
    }

    private boolean in(int parts) {
        return below(parts) == 0;
    }

    private Texts put(String part) {
        if (text.length() > 0) {
            char last = text.charAt(text.length() - 1);
            boolean glue = Character.isLetterOrDigit(last) && Character.isLetterOrDigit(part.charAt(0));
            if (glue || in(3)) {
                text.append(in(12) ? "\n" : in(12) ? "\t" : " ");
            }
        }
        text.append(part);
        return this;
    }

    String script() {
        many = in(4);
        for (int i = 0; i < 50; i++) {
            text = new StringBuilder();
            if (in(2)) {
                for (String name : FUNCTIONS) {
                    if (in(2)) {
                        put("def").put(name).put("{");
                        chains(1 + below(3), 1);
                        put("}").put(";");
                    }
                }
            }
            chains(1 + below(many ? 9 : 5), 0);
            if (text.length() <= 700) {
                return text.toString();
            }
        }
        return "";
    }

    /** A script with a few bytes changed. */
    String broken() {
        StringBuilder broken = new StringBuilder(script());
        String bytes = ";&|!(){}<>=-$? \nab12A.\u00ff";
        String[] pieces = {"if ", "then ", "else ", "fi ", "do ", "done", "def ", "while ", "abcdefghijkl ", "abcdefghijklm ", " 3>", "3 >",
            ">&", "<&-", "&&", "||", "((((((", "{{{{", " 1 ", "$?", "def f{"};
        for (int i = 1 + below(3); i > 0; i--) {
            int at = below(broken.length() + 1);
            if (in(3) && at < broken.length()) {
                broken.deleteCharAt(at);
            } else if (in(2)) {
                broken.insert(at, bytes.charAt(below(bytes.length())));
            } else {
                broken.insert(at, one(pieces));
            }
            if (in(6)) {
                broken.setLength(below(broken.length() + 1));
            }
        }
        if (broken.length() > 700) {
            broken.setLength(700);
        }
        return broken.toString();
    }

    private void chains(int count, int depth) {
        for (int i = 0; i < count && text.length() < 640; i++) {
            chain(depth);
            put(in(6) ? "&" : ";");
        }
    }

    private void chain(int depth) {
        pipeline(depth);
        while (in(6)) {
            put(in(2) ? "&&" : "||");
            pipeline(depth);
        }
    }

    private void pipeline(int depth) {
        if (in(10)) {
            put("!");
        }
        command(depth);
        while (in(6)) {
            put("|");
            command(depth);
        }
    }

    private void command(int depth) {
        if (depth < 5 && in(depth < 2 ? 3 : 5)) {
            compound(depth + 1);
        } else {
            simple();
        }
        while (in(4)) {
            redirection();
        }
    }

    private void compound(int depth) {
        switch (below(6)) {
            case 0:
                put("(");
                chains(below(4), depth);
                put(")");
                break;
            case 1:
                put("{");
                chains(below(4), depth);
                put("}");
                break;
            case 2:
                put("if");
                chain(depth);
                put(";").put("then");
                chains(below(3), depth);
                if (in(2)) {
                    put("else");
                    chains(below(3), depth);
                }
                put("fi");
                break;
            case 3:
                put("while");
                if (in(2)) {
                    put("read").put(one(VARIABLES));
                } else {
                    chain(depth);
                }
                put(";").put("do");
                chains(below(3), depth);
                put("done");
                break;
            case 4:
                put("def").put(many ? "f" + below(14) : one(FUNCTIONS)).put("{");
                chains(below(4), depth);
                put("}");
                break;
            default:
                put("(");
                chains(1 + below(3), depth);
                put(")");
        }
    }

    private String number() {
        return String.valueOf(in(5) ? below(1000000) : below(10));
    }

    private void argument() {
        switch (below(6)) {
            case 0:
                put("$").put(one(VARIABLES));
                break;
            case 1:
                put("$").put("?");
                break;
            case 2:
                put(String.valueOf(below(12)));
                break;
            default:
                put(in(9) ? "abcdefghijkl" : one(VARIABLES));
        }
    }

    private void simple() {
        switch (below(20)) {
            case 0:
                put(in(2) ? "true" : "false");
                break;
            case 1: case 2: case 3: case 4:
                put("echo");
                while (!in(3)) {
                    argument();
                }
                break;
            case 5: case 6:
                put("read");
                if (in(4)) {
                    argument();
                } else {
                    put(many ? "v" + below(30) : one(VARIABLES));
                }
                break;
            case 7: case 8:
                put("cat");
                break;
            case 9:
                put("exec");
                if (in(9)) {
                    argument();
                }
                redirection();
                break;
            case 10:
                if (in(2)) {
                    put("exit");
                    if (in(2)) {
                        put(number());
                    }
                } else {
                    put("echo").put("n");
                }
                break;
            case 11: case 12:
                put("trap").put(in(6) ? "default" : in(5) ? "ignore" : one(FUNCTIONS)).put(in(9) ? "no" : in(3) ? "exit" : one(SIGNALS));
                break;
            case 13:
                put("raise").put(one(SIGNALS));
                break;
            case 14:
                put("set").put(in(8) ? "x" : "pipefail").put(in(8) ? "y" : in(3) ? "off" : "on");
                break;
            case 15:
                put("wait");
                if (in(2)) {
                    put(in(9) ? number() : String.valueOf(1 + below(3)));
                }
                break;
            case 16:
                put("fg").put(in(9) ? number() : String.valueOf(1 + below(3)));
                break;
            case 17:
                put(one(FUNCTIONS));
                break;
            case 18:
                put(one(FUNCTIONS));
                if (in(3)) {
                    argument();
                }
                break;
            default:
                put(many ? "v" + below(30) : one(VARIABLES)).put("=");
                argument();
        }
    }

    private String handle() {
        return String.valueOf(in(3) ? below(10) : below(4));
    }

    private void redirection() {
        if (in(3)) {
            put(handle());
            // The handle's digit stands directly before the sign.
            text.append(in(2) ? ">&" : "<&");
            put(in(5) ? "-" : handle());
            return;
        }
        String sign = in(3) ? "<" : in(2) ? ">" : ">>";
        if (in(3)) {
            put(handle());
            text.append(sign);
        } else {
            put(sign);
        }
        put(many ? "n" + below(12) : one(FILES));
    }
}
