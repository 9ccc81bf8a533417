/** Promise 4: what is TOO MUCH, what is just not, and that nothing changes then. */
public final class TooMuchTest {
    private static final String FORTY = "0123456789012345678901234567890123456789";

    private static void fields(Checks checks) {
        checks.script("echo 1 2 3 4 5 6 7 8 9 a b c d e f", 0, "1 2 3 4 5 6 7 8 9 a b c d e f\n");
        checks.tooMuch("echo 1 2 3 4 5 6 7 8 9 a b c d e f g");
        checks.tooMuch("echo '' '' '' '' '' '' '' '' '' '' '' '' '' '' '' ''");
        checks.tooMuch("a='1 2 3 4 5 6 7 8 9'; echo $a $a");
        checks.script("a='   '; echo $a$a$a $a $a $a $a $a $a $a $a $a $a $a $a $a $a $a $a $a", 0, "\n");
        checks.script("echo 1 2 3 4 5 6 7 8 9 a | echo 1 2 3 4 5 6 7 8 9 a | wc", 0, "1 20\n");
        Shell shell = Checks.after(">a;>b;>c;>d;>e");
        checks.script(shell, "echo * * *", 0, "a b c d e a b c d e a b c d e\n");
        checks.tooMuch(shell, "echo * * * x");
        checks.tooMuch(shell, "echo x * * *");

        checks.script("echo " + FORTY, 0, FORTY + "\n");
        checks.tooMuch("echo " + FORTY + "0");
        checks.tooMuch("echo '" + FORTY + "0'");
        checks.tooMuch("a=" + FORTY + "; echo $a$a");
        checks.tooMuch("a=" + FORTY + "; echo \"$a \"");
        checks.script("a='" + FORTY.substring(1) + " '; echo $a$a", 0, FORTY.substring(1) + " " + FORTY.substring(1) + "\n");
        checks.tooMuch("> a; echo " + "*".repeat(41));
        checks.script("> a; echo " + "*".repeat(40), 0, "a\n");
        checks.tooMuch(FORTY + "0 < none");
    }

    private static void pipelines(Checks checks) {
        checks.script("echo a|cat|cat|cat|cat|cat", 0, "a\n");
        checks.tooMuch("echo a|cat|cat|cat|cat|cat|cat");
        checks.script("true || echo a|cat|cat|cat|cat|cat|cat", 0, "");
        checks.script("echo a|cat|cat; echo b|cat|cat|cat|cat && echo c | cat", 0, "a\nb\nc\n");
    }

    private static void variables(Checks checks) {
        checks.script("abcdef=1; echo $abcdef", 0, "1\n");
        checks.tooMuch("abcdefg=1");
        checks.tooMuch("abcdefg= | true");
        checks.script("abcdefg=1 true", 0, "");
        checks.script("abcdefg=1 < none", 1, "");
        checks.script("echo $abcdefg; unset abcdefg", 0, "\n");
        checks.script("a=" + FORTY + "; echo $a", 0, FORTY + "\n");
        checks.tooMuch("a=" + FORTY + "0");
        checks.tooMuch("a=" + FORTY + "0 true");
        checks.tooMuch("a=" + FORTY + "; b=$a$a");
        checks.tooMuch("a=" + FORTY + "; b=\"$a \" nope");
        checks.script("a=" + FORTY + " b=$a$a true", 0, "");
        checks.tooMuch("a=" + FORTY + " b=$a$a");
        Shell full = Checks.after("a=1 b=2 c=3 d=4 e=5 f=6 g=7 h=8");
        checks.same("variables", full.count(0), 8);
        checks.tooMuch(full, "i=9");
        checks.tooMuch(full, "i=9 | true");
        checks.tooMuch(full, "a=0; unset b; i=9; j=0");
        checks.script(full, "i=9 true; a=2; unset b; b2=3; echo $a$b2", 0, "23\n");
    }

    private static void positions(Checks checks) {
        checks.script("set 1 2 3 4 5 6 7 8 9", 0, "");
        checks.tooMuch("set 1 2 3 4 5 6 7 8 9 10");
        checks.tooMuch("true | set 1 2 3 4 5 6 7 8 9 10");
        checks.script("set " + FORTY + "; echo $1", 0, FORTY + "\n");
    }

    private static void files(Checks checks) {
        checks.script("> 12345678; echo *", 0, "12345678\n");
        checks.tooMuch("> 123456789");
        checks.tooMuch(">> 123456789");
        checks.tooMuch("cat < 123456789");
        checks.script("cat 123456789; rm 123456789; test -e 123456789", 1, "");
        checks.tooMuch("a=1234; echo x > $a$a\"$a\"");
        Shell full = Checks.after(">a;>b;>c;>d;>e;>f;>g;>h");
        checks.same("files", full.count(2), 8);
        checks.tooMuch(full, "> i");
        checks.tooMuch(full, "rm a; > i >> j");
        checks.tooMuch(full, "> i < none");
        checks.script(full, "> a < none > i || rm a; > i; echo *", 0, "b c d e f g h i\n");
    }

    private static void filesThatGrow(Checks checks) {
        Shell shell = Checks.after("a=" + FORTY.substring(1) + "; echo $a > f; echo $a >> f");
        checks.script(shell, "wc < f", 0, "2 80\n");
        checks.tooMuch(shell, "echo >> f");
        checks.tooMuch(shell, "cat f f > g");
        checks.tooMuch(shell, "rm f; echo $a $a. > g");
        checks.script(shell, "echo $a $a > g; wc < g; cat f > g; true >> f; cat g | wc", 0, "1 80\n2 80\n");
        checks.tooMuch(shell, "echo x; cat < f >> f");
    }

    private static void putOut(Checks checks) {
        Shell shell = Checks.after("a=" + FORTY.substring(1) + "; echo $a > f; echo $a >> f");
        checks.script(shell, "cat f f f | wc", 0, "6 240\n");
        checks.tooMuch(shell, "echo > g; cat f f f g | wc");
        checks.tooMuch(shell, "echo > g; cat f f f g > h");
        checks.tooMuch(shell, "echo " + "$a ".repeat(7) + "| true");
        checks.same("240 in OUTPUT", Checks.run(shell, "cat f f; cat f"), "0");
        checks.same("their count", shell.count(4), 240);
        checks.tooMuch(shell, "cat f f; cat f; echo");
        checks.script(shell, "cat f f f | tr '\n' x | cat | wc", 0, "0 240\n");
        checks.tooMuch(shell, "cat f f f | tr '\n' x | rev | wc");
        checks.script(shell, "cat f f f | cat x; cat f f f | echo a", 0, "a\n");
    }

    private static void leftOut(Checks checks) {
        checks.script("false && abcdefg=1", 1, "");
        checks.script("true || > 123456789", 0, "");
        checks.script("exit 3; abcdefg=1", 3, "");
        checks.script("exit 3 || echo " + FORTY + FORTY, 3, "");
    }

    private static void nothingChanges(Checks checks) {
        Shell shell = Checks.after("a=1; set p; echo x > f; echo out; false");
        checks.tooMuch(shell, "a=2; b=3; set q r; echo y >> f; > g; rm f; echo o; true; abcdefg=1");
        checks.tooMuch(shell, "exit 1 | abcdefg=1");
        checks.script(shell, "echo $?$a$1; cat f", 0, "11p\nx\n");
    }

    public static void main(String[] args) {
        Checks checks = new Checks("too much");
        fields(checks);
        pipelines(checks);
        variables(checks);
        positions(checks);
        files(checks);
        filesThatGrow(checks);
        putOut(checks);
        leftOut(checks);
        nothingChanges(checks);
        checks.end();
    }
}
