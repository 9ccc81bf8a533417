import java.util.Random;

/** All promises at once: TinyShell and PlainShell agree on scripts made from fixed seeds. */
public final class AgreementTest {
    private static final int SHELLS = 12000;
    private static final int SCRIPTS_EACH = 12;

    private static final String[] NAMES = {"a", "b", "c", "_x1", "abcdef", "abcdefg", "A", "Z9", "z0"};
    private static final String[] FILES = {"f", "g", "f1", "f2", "fgh", "'a b'", "\"*\"", "z", "longname", "toolongna"};
    private static final String[] PARAMETERS = {"$a", "$b", "${c}", "${a:-x y}", "${_x1:-}", "${c:-*}", "$1", "$2", "$#",
        "$?", "$", "$0", "$10", "$abcdef", "${b:- f? }", "$9", "$Z9", "$A", "${z0}"};
    private static final String[] BITS = {"x", "y", "ab", "1", "*", "?", "f", "=", "#", "-e", "\\ ", "\\*", "\\\\", "''",
        "\"\"", "'a  b'", "'\n'", "{", "}", "!", "f*", "?1", "0123456789", "abcdefghijklmnopqrst",
        "'ab\nac\nab'", "'b\nabb\naba\n\n'", "\"x\nx\n$a\""};
    private static final String[] UTILITIES = {"echo", "echo", "echo", "cat", "cat", "true", "false", "set", "unset", "rm",
        "wc", "head", "rev", "sort", "uniq", "grep", "tr", "test", "exit", "nope", "''"};
    private static final String[] NUMBERS = {"0", "1", "2", "3", "10", "007", "255", "256", "1000", "-1"};
    private static final String[] ODD = {"&", "&&", "||", "|", ";", "\n", "<", ">", ">>", "(", ")", "'", "\"", "\\", "$",
        "${", "}", ":", "-", "#", " ", "a", "=", "${a:-", "\\\n"};

    private final Random random;

    private AgreementTest(long seed) {
        random = new Random(seed);
    }

    private String any(String[] texts) {
        return texts[random.nextInt(texts.length)];
    }

    private String word() {
        StringBuilder word = new StringBuilder();
        for (int n = random.nextInt(3); n >= 0; n--) {
            switch (random.nextInt(8)) {
                case 0, 1 -> word.append(any(PARAMETERS));
                case 2 -> word.append('"').append(any(PARAMETERS)).append(any(PARAMETERS)).append('"');
                case 3 -> word.append('"').append(random.nextBoolean() ? " \\" : "*").append(any(PARAMETERS)).append("\\\\\"");
                case 4 -> word.append(any(FILES));
                default -> word.append(any(BITS));
            }
        }
        return word.toString();
    }

    private String argument(String utility) {
        switch (utility) {
            case "head", "exit":
                return random.nextInt(5) == 0 ? word() : any(NUMBERS);
            case "cat", "rm":
                return random.nextInt(4) == 0 ? word() : any(FILES);
            case "unset":
                return any(NAMES);
            case "tr":
                return random.nextInt(4) == 0 ? "'\n'" : random.nextBoolean() ? "a" : word();
            case "test":
                return new String[] {"=", "!=", "-e", word(), any(FILES), "a"}[random.nextInt(6)];
            case "grep":
                return random.nextBoolean() ? "a" : word();
            default:
                return word();
        }
    }

    private int arguments(String utility) {
        return switch (utility) {
            case "echo", "set", "rm", "unset", "cat" -> random.nextInt(random.nextInt(20) == 0 ? 18 : 5);
            case "tr" -> random.nextInt(8) == 0 ? 1 : 2;
            case "grep", "head" -> random.nextInt(8) == 0 ? 0 : 1;
            case "test" -> random.nextInt(5);
            case "exit" -> random.nextInt(3);
            default -> random.nextInt(6) == 0 ? 1 : 0;
        };
    }

    private String redirection() {
        return any(new String[] {"<", ">", ">>"}) + any(new String[] {"", " "})
            + (random.nextInt(6) == 0 ? word() : any(FILES));
    }

    private String assignment() {
        return any(NAMES) + "=" + (random.nextInt(4) == 0 ? "" : word());
    }

    private String command() {
        StringBuilder command = new StringBuilder();
        int kind = random.nextInt(10);
        for (int n = kind < 3 ? 1 + random.nextInt(2) : random.nextInt(12) / 11; n > 0; n--) {
            command.append(assignment()).append(' ');
        }
        if (random.nextInt(12) == 0) {
            command.append(redirection()).append(' ');
        }
        if (kind >= 3) {
            String utility = any(UTILITIES);
            command.append(utility);
            for (int n = arguments(utility); n > 0; n--) {
                command.append(' ').append(argument(utility));
            }
        }
        for (int n = random.nextInt(6) / 4; n > 0; n--) {
            command.append(' ').append(redirection());
        }
        return command.length() == 0 ? "true" : command.toString();
    }

    private String script() {
        StringBuilder script = new StringBuilder(random.nextInt(10) == 0 ? "\n # c\n" : "");
        for (int n = random.nextInt(5); n >= 0; n--) {
            script.append(command());
            if (n > 0) {
                script.append(any(new String[] {";", "; ", "\n", " && ", " || ", "|", " | ", "|\n", "&&\n\n", " # c ;\n"}));
            }
        }
        script.append(any(new String[] {"", "", ";", "\n", " # end", "; \n\n"}));
        if (random.nextInt(6) == 0) {
            int where = random.nextInt(script.length() + 1);
            if (random.nextBoolean()) {
                script.insert(where, any(ODD));
            } else {
                script.setLength(where);
            }
        }
        if (script.length() > 240) {
            script.setLength(240);
        }
        return script.toString();
    }

    private String odd() {
        StringBuilder script = new StringBuilder();
        for (int n = random.nextInt(12); n > 0; n--) {
            script.append(random.nextInt(3) == 0 ? "a" : any(ODD));
        }
        return script.toString();
    }

    private static String answer(PlainShell shell, String script) {
        try {
            return String.valueOf(shell.run(script));
        } catch (PlainShell.Malformed e) {
            return Checks.MALFORMED;
        } catch (PlainShell.TooMuch e) {
            return Checks.TOO_MUCH;
        }
    }

    public static void main(String[] args) {
        Checks checks = new Checks("agreement");
        int first = args.length > 0 ? Integer.parseInt(args[0]) : 1;
        int shells = args.length > 1 ? Integer.parseInt(args[1]) : SHELLS;
        int[] kinds = new int[3];
        for (int seed = first; seed < first + shells; seed++) {
            AgreementTest made = new AgreementTest(seed);
            Shell tiny = new Shell();
            PlainShell plain = new PlainShell();
            for (int n = 0; n < SCRIPTS_EACH; n++) {
                String script = n == SCRIPTS_EACH - 1 ? made.odd() : made.script();
                String due = answer(plain, script);
                String what = "seed " + seed + ", script " + script;
                checks.same(what, Checks.run(tiny, script), due);
                checks.same("the state behind " + what, Checks.state(tiny), plain.state());
                checks.same("the place behind " + what, tiny.place(), plain.place);
                kinds[due.equals(Checks.MALFORMED) ? 1 : due.equals(Checks.TOO_MUCH) ? 2 : 0]++;
            }
        }
        System.out.println(kinds[0] + " scripts that ran, " + kinds[1] + " malformed, " + kinds[2] + " too much");
        checks.end();
    }
}
