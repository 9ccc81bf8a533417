/** Promises 6 to 11: output, count, value, position, content and name. */
public final class LookTest {
    private static final int[] FAR = {-1, Integer.MIN_VALUE, Integer.MIN_VALUE + 1, Integer.MAX_VALUE, 1000};

    private static void output(Checks checks) {
        Shell shell = Checks.after("echo ab");
        checks.same("output(0)", shell.output(0), 'a');
        checks.same("output(2)", shell.output(2), '\n');
        checks.same("output(3)", shell.output(3), '\0');
        for (int k : FAR) {
            checks.same("output(" + k + ")", shell.output(k), '\0');
        }
        Checks.run(shell, "echo c");
        checks.same("output(2) of a shorter one", shell.output(2), '\0');
        checks.same("output(0) of a shorter one", shell.output(0), 'c');
    }

    private static void count(Checks checks) {
        Shell shell = Checks.after("a=1 b=2; set p q r; > f; > g; > h; > i; echo 12345; exit 77");
        int[] due = {2, 3, 4, 77, 6};
        for (int what = 0; what < due.length; what++) {
            checks.same("count(" + what + ")", shell.count(what), due[what]);
        }
        for (int what : new int[] {-1, 5, 6, Integer.MIN_VALUE, Integer.MAX_VALUE}) {
            checks.same("count(" + what + ")", shell.count(what), -1);
        }
    }

    private static void variables(Checks checks) {
        Shell shell = Checks.after("b=2x; ab=3; a=1; B=4; a_=5; a1=6; abc=; _=7", "unset a1");
        String[] names = {"B", "_", "a", "a_", "ab", "abc", "b"};
        String[] values = {"4", "7", "1", "5", "3", "", "2x"};
        for (int i = 0; i < names.length; i++) {
            checks.same("name(false, " + i + ")", Checks.name(shell, false, i), names[i]);
            checks.same("value(" + i + ")", Checks.value(shell, i), values[i]);
        }
        checks.same("value(6, 1)", shell.value(6, 1), 'x');
        checks.same("value(6, 2)", shell.value(6, 2), '\0');
        checks.same("value(7, 0)", shell.value(7, 0), '\0');
        checks.same("name(false, 7, 0)", shell.name(false, 7, 0), '\0');
        checks.same("name(false, 5, 3)", shell.name(false, 5, 3), '\0');
        for (int far : FAR) {
            checks.same("value(0, " + far + ")", shell.value(0, far), '\0');
            checks.same("value(" + far + ", 0)", shell.value(far, 0), '\0');
            checks.same("name(false, 0, " + far + ")", shell.name(false, 0, far), '\0');
            checks.same("name(false, " + far + ", 0)", shell.name(false, far, 0), '\0');
        }
    }

    private static void positions(Checks checks) {
        Shell shell = Checks.after("set a 'b c' '' d");
        checks.same("position(1, 0)", shell.position(1, 0), 'a');
        checks.same("position(2, 2)", shell.position(2, 2), 'c');
        checks.same("position(2, 3)", shell.position(2, 3), '\0');
        checks.same("position(3, 0)", shell.position(3, 0), '\0');
        checks.same("position(4, 0)", shell.position(4, 0), 'd');
        checks.same("position(5, 0)", shell.position(5, 0), '\0');
        checks.same("position(0, 0)", shell.position(0, 0), '\0');
        for (int far : FAR) {
            checks.same("position(1, " + far + ")", shell.position(1, far), '\0');
            checks.same("position(" + far + ", 0)", shell.position(far, 0), '\0');
        }
        Checks.run(shell, "set z");
        checks.same("position(2, 0) behind set", shell.position(2, 0), '\0');
    }

    private static void files(Checks checks) {
        Shell shell = Checks.after("echo 1 > b; echo 2 > a; echo 3 > ab; echo 4 > 'a b'; > Z; echo 5 > c", "rm c; a=x");
        String[] names = {"Z", "a", "a b", "ab", "b"};
        String[] contents = {"", "2\n", "4\n", "3\n", "1\n"};
        for (int i = 0; i < names.length; i++) {
            checks.same("name(true, " + i + ")", Checks.name(shell, true, i), names[i]);
            checks.same("content(" + i + ")", Checks.content(shell, i), contents[i]);
        }
        checks.same("content(5, 0)", shell.content(5, 0), '\0');
        checks.same("content(1, 2)", shell.content(1, 2), '\0');
        checks.same("name(true, 5, 0)", shell.name(true, 5, 0), '\0');
        checks.same("name(true, 2, 3)", shell.name(true, 2, 3), '\0');
        for (int far : FAR) {
            checks.same("content(1, " + far + ")", shell.content(1, far), '\0');
            checks.same("content(" + far + ", 0)", shell.content(far, 0), '\0');
            checks.same("name(true, 0, " + far + ")", shell.name(true, 0, far), '\0');
            checks.same("name(true, " + far + ", 0)", shell.name(true, far, 0), '\0');
        }
        checks.same("name(false, 0, 0)", shell.name(false, 0, 0), 'a');
        checks.same("name(false, 1, 0)", shell.name(false, 1, 0), '\0');
    }

    private static void emptyShell(Checks checks) {
        Shell shell = new Shell();
        checks.same("output of a new shell", shell.output(0), '\0');
        checks.same("value of a new shell", shell.value(0, 0), '\0');
        checks.same("position of a new shell", shell.position(1, 0), '\0');
        checks.same("content of a new shell", shell.content(0, 0), '\0');
        checks.same("name of a new shell", shell.name(true, 0, 0), '\0');
    }

    public static void main(String[] args) {
        Checks checks = new Checks("look");
        output(checks);
        count(checks);
        variables(checks);
        positions(checks);
        files(checks);
        emptyShell(checks);
        checks.end();
    }
}
