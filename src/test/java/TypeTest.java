/** Promises 2 and 3: type and wipe. */
public final class TypeTest {
    private static long eight(int... bytes) {
        long all = 0;
        for (int b : bytes) {
            all = all << 8 | b;
        }
        return all;
    }

    private static void typesBytes(Checks checks) {
        Shell shell = new Shell();
        checks.same("type(echo hi!)", shell.type(0x6563686F20686921L), true);
        checks.same("run()", Checks.runTyped(shell), "0");
        checks.same("its output", Checks.output(shell), "hi!\n");

        shell = new Shell();
        checks.same("type(0)", shell.type(0), true);
        checks.same("zeros between", shell.type(eight('e', 0, 0, 'c', 'h', 0, 'o', 0)), true);
        checks.same("and behind", shell.type(eight(' ', 'a', 0, 0)), true);
        checks.same("run()", Checks.runTyped(shell), "0");
        checks.same("its output", Checks.output(shell), "a\n");
        checks.same("typing goes on behind a run", shell.type('b'), true);
        checks.same("run() again", Checks.runTyped(shell), "0");
        checks.same("its output", Checks.output(shell), "ab\n");
    }

    private static void refusesOtherBytes(Checks checks) {
        for (int b = 0; b < 256; b++) {
            boolean due = b == 0 || b == 10 || b >= 32 && b <= 126;
            for (int shift = 0; shift < 64; shift += 8) {
                checks.same("type of byte " + b + " at " + shift, new Shell().type((long) b << shift), due);
            }
        }
        Shell shell = new Shell();
        Checks.type(shell, "echo a");
        checks.same("good bytes and a bad one", shell.type(eight('b', 'c', 9, 'd')), false);
        checks.same("a byte above 127", shell.type(-1L), false);
        Checks.runTyped(shell);
        checks.same("a refused type adds nothing", Checks.output(shell), "a\n");
    }

    private static void refusesMoreThan240(Checks checks) {
        Shell shell = new Shell();
        String script = "echo " + "#".repeat(235);
        checks.same("236 characters", Checks.type(shell, script.substring(0, 236)), true);
        checks.same("5 more", shell.type(eight('a', 'a', 'a', 'a', 'a')), false);
        checks.same("4 more and zeros", shell.type(eight(0, 'a', 0, 'a', 'a', 0, 'a', 0)), true);
        checks.same("1 more", shell.type('a'), false);
        checks.same("none more", shell.type(0), true);
        checks.same("the script stands", Checks.runTyped(shell), "0");
        checks.same("its output", Checks.output(shell), "\n");

        shell.wipe();
        checks.same("room again behind wipe", Checks.type(shell, " ".repeat(240)), true);
        checks.same("and no more", shell.type(' '), false);
    }

    private static void wipes(Checks checks) {
        Shell shell = Checks.after("a=1; set p; echo x > f; echo y; false", "(");
        Checks.run(shell, "echo out; a=2; false");
        String before = Checks.state(shell);
        shell.wipe();
        checks.same("wipe leaves the state", Checks.state(shell), before);
        checks.same("wipe leaves the place", shell.place(), 0);
        checks.same("run() behind wipe", Checks.runTyped(shell), "1");
        checks.same("its output", shell.count(4), 0);
        Checks.type(shell, "echo b");
        Checks.runTyped(shell);
        checks.same("only what is typed behind wipe runs", Checks.output(shell), "b\n");
        shell.wipe();
        shell.wipe();
        checks.same("wiped twice", Checks.runTyped(shell), "0");
    }

    public static void main(String[] args) {
        Checks checks = new Checks("type and wipe");
        typesBytes(checks);
        refusesOtherBytes(checks);
        refusesMoreThan240(checks);
        wipes(checks);
        checks.end();
    }
}
