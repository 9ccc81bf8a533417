/** Promise 4: pipelines, && and ||, redirections, assignments, and what stays behind a run. */
public final class RunningTest {
    private static void pipelines(Checks checks) {
        checks.script("echo a | cat | rev", 0, "a\n");
        checks.script("echo a | true | cat", 0, "");
        checks.script("cat; wc", 0, "0 0\n");
        checks.script("false | true", 0, "");
        checks.script("true | false", 1, "");
        checks.script("false; true | echo $? | cat", 0, "1\n");
        checks.script("echo a | echo b", 0, "b\n");
        checks.script("nope | wc", 0, "0 0\n");
        checks.script("cat < none | wc", 0, "0 0\n");
        checks.script("echo a|cat|cat|cat|cat|cat", 0, "a\n");
        Shell shell = Checks.after("a=1; set p");
        checks.script(shell, "a=2 | echo $a", 0, "1\n");
        checks.script(shell, "unset a | set q r | echo $a $# $1; echo $a $# $1", 0, "1 1 p\n1 1 p\n");
        checks.script(shell, "echo x | a=3; echo $a", 0, "1\n");
        checks.script(shell, "echo x > f | cat f; rm f | test -e f", 1, "x\n");
        checks.script(shell, "a=2; unset b; set; echo $a $#", 0, "2 0\n");
    }

    private static void andOr(Checks checks) {
        checks.script("true && echo a || echo b", 0, "a\n");
        checks.script("false && echo a || echo b", 0, "b\n");
        checks.script("true || echo a && echo b", 0, "b\n");
        checks.script("false || false && echo a || echo b && echo c", 0, "b\nc\n");
        checks.script("false && echo a", 1, "");
        checks.script("false && echo a; echo $?", 0, "1\n");
        checks.script("exit 3 | false && echo a || echo $?", 0, "1\n");
        checks.script("false && a | b || echo c | cat && echo d", 0, "c\nd\n");
        checks.script("nope || echo $?", 0, "127\n");
    }

    private static void exits(Checks checks) {
        checks.script("echo a; exit 7; echo b", 7, "a\n");
        checks.script("exit 0 || echo a\necho b", 0, "");
        checks.script("exit 3 && echo a || echo b; echo c", 3, "");
        checks.script("false; exit", 1, "");
        checks.script("echo a | exit 4; echo $?", 0, "4\n");
        checks.script("exit 4 | cat; echo $?", 0, "0\n");
        checks.script("false; true | exit; echo $?", 0, "1\n");
        checks.script("exit 255", 255, "");
        checks.script("exit 00", 0, "");
        checks.script("exit 256; echo $?", 0, "2\n");
        checks.script("exit 0001; echo $?", 0, "2\n");
        checks.script("exit -1; echo $?; exit 1 2; echo $?; exit ''; echo $?; exit 1a", 2, "2\n2\n2\n");
        checks.script("exit 5 < none; echo $?", 0, "1\n");
        checks.script("exit 5 > f", 5, "");
        checks.script("a=1 exit 6", 6, "");
        for (int status : new int[] {0, 9, 10, 11, 99, 100, 101, 110, 255}) {
            checks.script("true | exit " + status + "; echo $?", 0, status + "\n");
        }
        Shell shell = Checks.after("exit 9");
        checks.script(shell, "", 9, "");
        checks.script(shell, "exit", 9, "");
        checks.script(shell, "echo $?", 0, "9\n");
    }

    private static void redirections(Checks checks) {
        checks.script("echo a > f; echo b >> f; echo c >> g; cat f g", 0, "a\nb\nc\n");
        checks.script("echo a > f; echo b > f; cat < f", 0, "b\n");
        checks.script("echo a > f > g; wc < f; cat g", 0, "0 0\na\n");
        checks.script("echo a > f; echo b > g; cat < f < g", 0, "b\n");
        checks.script("echo a > f; echo b | cat < f", 0, "a\n");
        checks.script("echo a > f | cat; echo b | cat f -", 1, "a\n");
        checks.script("echo a > f; cat < f > f; wc < f", 0, "0 0\n");
        checks.script("echo a > f; cat < f >> f; cat f", 0, "a\na\n");
        checks.script("echo a > f; cat f f >> f; cat f", 0, "a\na\na\n");
        checks.script("> f echo a; < f cat > g; cat g", 0, "a\n");
        checks.script("> f; echo a > g >> f; cat f", 0, "a\n");
        checks.script("f=n; echo a > $f; echo b > \"$f\"2; cat n n2", 0, "a\nb\n");
        checks.script("a='x y'; echo o > $a; echo *; cat 'x y'", 0, "x y\no\n");
        checks.script("test -e f > f", 0, "");
        checks.script("nope > f; test -e f", 0, "");
        checks.script("wc x > f; echo $?; wc < f", 0, "2\n0 0\n");
        checks.script("> 12345678; echo *", 0, "12345678\n");
    }

    private static void redirectionsThatFail(Checks checks) {
        checks.script("cat < none", 1, "");
        checks.script("echo a > ''", 1, "");
        checks.script("echo a >> $none; echo $?", 0, "1\n");
        checks.script("echo a < \"\"", 1, "");
        checks.script("< none", 1, "");
        checks.script("a=1 < none; echo $?$a", 0, "1\n");
        checks.script("echo x > f; echo y > f < none; wc < f", 0, "0 0\n");
        checks.script("echo y > f < none > g; echo *", 0, "f\n");
        checks.script("echo y < none > toolongname; echo $?", 0, "1\n");
        checks.script("a=" + "0".repeat(41) + " echo < none; echo $?", 0, "1\n");
        checks.script("rm f > f; echo $? *", 0, "0 *\n");
        checks.script("rm f >> f; test -e f", 1, "");
        checks.script("echo a > f; cat < f > g < none; test -e g", 0, "");
    }

    private static void assignments(Checks checks) {
        checks.script("a=1 b=$a$a c=$b.; echo $a$b$c", 0, "11111.\n");
        checks.script("a=1 b=$a echo $a$b; echo $a$b", 0, "\n\n");
        checks.script("a=1; a=2 $none; echo $a", 0, "2\n");
        checks.script("a=1; a=2 ''; echo $?$a", 0, "1271\n");
        checks.script("a=1 > f; echo $a *", 0, "1 f\n");
        checks.script("false; a=$?; echo $a$?", 0, "10\n");
        checks.script("false; > f", 0, "");
        checks.script("longname=1 true; echo $longname", 0, "\n");
        checks.script("a=1; b=2; a=; echo \"[$a]$b\"", 0, "[]2\n");
    }

    private static void manyRuns(Checks checks) {
        Shell shell = new Shell();
        Checks.type(shell, "a=$a.; test $a = .......... && a=; echo \"x$a\" | cat; echo $a > f; cat f | cat; echo 'b' \"c\" $#");
        for (int n = 1; n <= 240; n++) {
            String dots = ".".repeat(n % 10);
            checks.same("run " + n, Checks.runTyped(shell), "0");
            checks.same("run " + n + " put out", shell.count(4), ("x" + dots + "\n" + dots + "\nb c 0\n").length());
        }
    }

    private static void whatStays(Checks checks) {
        Shell shell = Checks.after("a=1; set p q; echo x > f; echo out; false");
        String stays = "variables a=[1]; positions [p] [q]; files f=[x\n]; status 1; output ";
        checks.same("behind a run", Checks.state(shell), stays + "4 [out\n]");
        checks.same("a comment", Checks.run(shell, "# nothing"), "1");
        checks.same("behind it", Checks.state(shell), stays + "0 []");
        checks.script(shell, "echo $a $2 $?; cat f", 0, "1 q 1\nx\n");
        checks.same("run() again", Checks.runTyped(shell), "0");
        checks.same("its output", Checks.output(shell), "1 q 0\nx\n");
    }

    public static void main(String[] args) {
        Checks checks = new Checks("running");
        pipelines(checks);
        andOr(checks);
        exits(checks);
        redirections(checks);
        redirectionsThatFail(checks);
        assignments(checks);
        whatStays(checks);
        manyRuns(checks);
        checks.end();
    }
}
