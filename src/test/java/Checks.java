import java.util.Objects;

/** What the tests share: a shell that takes scripts as texts, and checks that print what is not as due. */
final class Checks {
    static final String MALFORMED = "malformed";
    static final String TOO_MUCH = "too much";

    private final String title;
    private int wrong = 0;

    Checks(String title) {
        this.title = title;
    }

    void same(String what, Object got, Object due) {
        if (!Objects.equals(got, due)) {
            wrong++;
            System.out.println(title + ": " + shown(what) + " answered " + shown(got) + ", due is " + shown(due));
        }
    }

    /** Runs a script on a new shell. */
    void script(String script, int status, String output) {
        script(new TinyShell(), script, status, output);
    }

    void script(TinyShell shell, String script, int status, String output) {
        same(script, run(shell, script) + " " + output(shell), status + " " + output);
    }

    void tooMuch(String script) {
        tooMuch(new TinyShell(), script);
    }

    void tooMuch(TinyShell shell, String script) {
        String before = state(shell);
        same(script, run(shell, script), TOO_MUCH);
        same("the state behind " + script, state(shell), before);
    }

    void malformed(String script, int place) {
        TinyShell shell = new TinyShell();
        String before = state(shell);
        same(script, run(shell, script), MALFORMED);
        same("the place in " + script, shell.place(), place);
        same("the state behind " + script, state(shell), before);
    }

    void end() {
        if (wrong != 0) {
            System.out.println(title + ": " + wrong + " answers are not as due");
            System.exit(1);
        }
    }

    /** A new shell on which each of the scripts has run. */
    static TinyShell after(String... scripts) {
        TinyShell shell = new TinyShell();
        for (String script : scripts) {
            run(shell, script);
        }
        return shell;
    }

    static boolean type(TinyShell shell, String text) {
        for (int from = 0; from < text.length(); from += 8) {
            long eight = 0;
            for (int k = from; k < Math.min(from + 8, text.length()); k++) {
                eight = eight << 8 | text.charAt(k);
            }
            if (!shell.type(eight)) {
                return false;
            }
        }
        return true;
    }

    /** Runs the script in place of the one that stood there: its status, or what was thrown. */
    static String run(TinyShell shell, String script) {
        shell.wipe();
        if (!type(shell, script)) {
            return "not typed";
        }
        return runTyped(shell);
    }

    static String runTyped(TinyShell shell) {
        try {
            return String.valueOf(shell.run());
        } catch (IllegalArgumentException e) {
            return MALFORMED;
        } catch (UnsupportedOperationException e) {
            return TOO_MUCH;
        }
    }

    static String output(TinyShell shell) {
        StringBuilder text = new StringBuilder();
        for (int k = 0; shell.output(k) != 0; k++) {
            text.append(shell.output(k));
        }
        return text.toString();
    }

    static String value(TinyShell shell, int i) {
        StringBuilder text = new StringBuilder();
        for (int k = 0; shell.value(i, k) != 0; k++) {
            text.append(shell.value(i, k));
        }
        return text.toString();
    }

    static String position(TinyShell shell, int i) {
        StringBuilder text = new StringBuilder();
        for (int k = 0; shell.position(i, k) != 0; k++) {
            text.append(shell.position(i, k));
        }
        return text.toString();
    }

    static String content(TinyShell shell, int i) {
        StringBuilder text = new StringBuilder();
        for (int k = 0; shell.content(i, k) != 0; k++) {
            text.append(shell.content(i, k));
        }
        return text.toString();
    }

    static String name(TinyShell shell, boolean files, int i) {
        StringBuilder text = new StringBuilder();
        for (int k = 0; shell.name(files, i, k) != 0; k++) {
            text.append(shell.name(files, i, k));
        }
        return text.toString();
    }

    /** All that the face tells but for place: variables, positions, files, status and OUTPUT. */
    static String state(TinyShell shell) {
        StringBuilder text = new StringBuilder("variables");
        for (int i = 0; i < shell.count(0); i++) {
            text.append(' ').append(name(shell, false, i)).append("=[").append(value(shell, i)).append(']');
        }
        text.append("; positions");
        for (int i = 1; i <= shell.count(1); i++) {
            text.append(" [").append(position(shell, i)).append(']');
        }
        text.append("; files");
        for (int i = 0; i < shell.count(2); i++) {
            text.append(' ').append(name(shell, true, i)).append("=[").append(content(shell, i)).append(']');
        }
        text.append("; status ").append(shell.count(3));
        text.append("; output ").append(shell.count(4)).append(" [").append(output(shell)).append(']');
        return text.toString();
    }

    private static String shown(Object answer) {
        return "<" + String.valueOf(answer).replace("\n", "\\n").replace("\0", "\\0") + ">";
    }
}
