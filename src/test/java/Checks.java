import java.util.Objects;
import java.util.function.IntUnaryOperator;

/** What the tests share: a shell that takes scripts as texts, and checks that print what is not as due. */
final class Checks {
    static final String MALFORMED = "malformed";
    static final String TOO_MUCH = "too much";

    private final String title;
    private int wrong = 0;

    Checks(String title) {
        this.title = title;
    }

    void same(String what, Object got, Object due) {
        if (!Objects.equals(got, due)) {
            wrong++;
            System.out.println(title + ": " + shown(what) + " answered " + shown(got) + ", due is " + shown(due));
        }
    }

    /** Runs a script on a new shell. */
    void script(String script, int status, String output) {
        script(new Shell(), script, status, output);
    }

    void script(Shell shell, String script, int status, String output) {
        same(script, run(shell, script) + " " + output(shell), status + " " + output);
    }

    /** Runs a script and looks at all that is there behind it. */
    void leaves(Shell shell, String script, int status, String state) {
        same(script, run(shell, script), String.valueOf(status));
        same("the state behind " + script, state(shell), state);
    }

    /** On a shell without variables, positions and files, but with a status and an OUTPUT that have to stay. */
    void tooMuch(String script) {
        tooMuch(after("echo out; false"), script);
    }

    void tooMuch(Shell shell, String script) {
        String before = state(shell);
        int place = shell.place();
        same(script, run(shell, script), TOO_MUCH);
        same("the state behind " + script, state(shell), before);
        same("the place behind " + script, shell.place(), place);
    }

    /** On a shell with something of everything, all of which has to stay, but for another place. */
    void malformed(String script, int place) {
        Shell shell = after(place == 0 ? " (" : "(", "a=1; set p; echo x > f; echo out; false");
        String before = state(shell);
        same(script, run(shell, script), MALFORMED);
        same("the place in " + script, shell.place(), place);
        same("the state behind " + script, state(shell), before);
    }

    void end() {
        if (wrong != 0) {
            System.out.println(title + ": " + wrong + " answers are not as due");
            System.exit(1);
        }
    }

    /** A new shell on which each of the scripts has run. */
    static Shell after(String... scripts) {
        Shell shell = new Shell();
        for (String script : scripts) {
            run(shell, script);
        }
        return shell;
    }

    static boolean type(Shell shell, String text) {
        for (int from = 0; from < text.length(); from += 8) {
            long eight = 0;
            for (int k = from; k < Math.min(from + 8, text.length()); k++) {
                eight = eight << 8 | text.charAt(k);
            }
            if (!shell.type(eight)) {
                return false;
            }
        }
        return true;
    }

    /** Runs the script in place of the one that stood there: its status, or what was thrown. */
    static String run(Shell shell, String script) {
        shell.wipe();
        if (!type(shell, script)) {
            return "not typed";
        }
        return runTyped(shell);
    }

    static String runTyped(Shell shell) {
        try {
            return String.valueOf(shell.run());
        } catch (IllegalArgumentException e) {
            return MALFORMED;
        } catch (UnsupportedOperationException e) {
            return TOO_MUCH;
        }
    }

    static String output(Shell shell) {
        return text(shell::output);
    }

    static String value(Shell shell, int i) {
        return text(k -> shell.value(i, k));
    }

    static String position(Shell shell, int i) {
        return text(k -> shell.position(i, k));
    }

    static String content(Shell shell, int i) {
        return text(k -> shell.content(i, k));
    }

    static String name(Shell shell, boolean files, int i) {
        return text(k -> shell.name(files, i, k));
    }

    /** The characters from 0 up to the one that is not there; the bound is above what any text may have. */
    private static String text(IntUnaryOperator characters) {
        StringBuilder text = new StringBuilder();
        for (int k = 0; k < 300; k++) {
            char c = (char) characters.applyAsInt(k);
            if (c == 0) {
                break;
            }
            text.append(c);
        }
        return text.toString();
    }

    /** All that the face tells but for place: variables, positions, files, status and OUTPUT. */
    static String state(Shell shell) {
        StringBuilder variables = new StringBuilder();
        for (int i = 0; i < shell.count(0); i++) {
            variables.append(' ').append(name(shell, false, i)).append("=[").append(value(shell, i)).append(']');
        }
        StringBuilder positions = new StringBuilder();
        for (int i = 1; i <= shell.count(1); i++) {
            positions.append(" [").append(position(shell, i)).append(']');
        }
        StringBuilder files = new StringBuilder();
        for (int i = 0; i < shell.count(2); i++) {
            files.append(' ').append(name(shell, true, i)).append("=[").append(content(shell, i)).append(']');
        }
        return "variables" + variables + "; positions" + positions + "; files" + files + "; status " + shell.count(3)
            + "; output " + shell.count(4) + " [" + output(shell) + "]";
    }

    /** A state as state() tells it, of such parts as " a=[1] b=[2]", " [p] [q]" and " f=[x]". */
    static String state(String variables, String positions, String files, int status, String output) {
        return "variables" + variables + "; positions" + positions + "; files" + files + "; status " + status
            + "; output " + output.length() + " [" + output + "]";
    }

    private static String shown(Object answer) {
        return "<" + String.valueOf(answer).replace("\n", "\\n").replace("\0", "\\0") + ">";
    }
}
