/** The example of README.md, as it stands there, and the readings that it tells. */
public final class ReadmeTest {
    /** Types a text of LFs and characters 32 to 126; false when the shell refuses a part of it. */
    static boolean typeText(TinyShell shell, String text) {
        for (int from = 0; from < text.length(); from += 8) {
            long eight = 0;
            for (int k = from; k < text.length() && k < from + 8; k++) {
                eight = eight << 8 | text.charAt(k);
            }
            if (!shell.type(eight)) {
                return false;
            }
        }
        return true;
    }

    static String outputOf(TinyShell shell) {
        StringBuilder text = new StringBuilder();
        for (int k = 0; k < shell.count(4); k++) {
            text.append(shell.output(k));
        }
        return text.toString();
    }

    static String use() {
        TinyShell shell = new TinyShell();
        typeText(shell, "a='x  y'; echo $a > f; cat f | rev");
        shell.run();
        String first = outputOf(shell);
        shell.wipe();
        typeText(shell, "echo \"$a\"; rm g");
        int status = shell.run();
        return first + outputOf(shell) + status;
    }

    private static void readings(Checks checks) {
        checks.script("echo 1 2 3 4 5 6 7 8 9 | echo 1 2 3 4 5 6 7 8 9 | wc", 0, "1 18\n");
        checks.malformed("a > # c", 7);
        checks.malformed("a > # c\nb", 7);
        checks.leaves(new Shell(), "echo a > f; cat f f >> f", 0, Checks.state("", "", " f=[a\na\na\n]", 0, ""));
        checks.leaves(new Shell(), "a=" + "x".repeat(41) + " < none > toolongname", 1, Checks.state("", "", "", 1, ""));
        checks.leaves(new Shell(), "longname=1 true", 0, Checks.state("", "", "", 0, ""));
        checks.script("test a b c", 2, "");
        checks.leaves(new Shell(), "> f; rm f f", 1, Checks.state("", "", "", 1, ""));
    }

    public static void main(String[] args) {
        Checks checks = new Checks("README");
        checks.same("use()", use(), "y x\nx  y\n1");
        checks.same("a text too long", typeText(new TinyShell(), "x".repeat(241)), false);
        checks.same("a text of a tab", typeText(new TinyShell(), "\t"), false);
        readings(checks);
        checks.end();
    }
}
