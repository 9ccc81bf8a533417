/** The boundary cases of UTILITIES and LINES in the document's Terms: a test for each sentence that names some. */
public final class UtilityBoundaryTest {
    // Fifteen arguments: with the utility, as many fields as a command may have.
    private static final String FIFTEEN = " 1 2 3 4 5 6 7 8 9 a b c d e f";

    /** Runs utility with each of the arguments: status 2, nothing put out, and its file is opened all the same. */
    private static void refused(Checks checks, String utility, String... arguments) {
        for (String argument : arguments) {
            String command = utility + " " + argument;
            Shell shell = Checks.after("a=1; set p; echo x > f");
            checks.leaves(shell, "echo i | " + command, 2, Checks.state(" a=[1]", " [p]", " f=[x\n]", 2, ""));
            checks.leaves(shell, command + "; echo $?", 0, Checks.state(" a=[1]", " [p]", " f=[x\n]", 0, "2\n"));
            checks.leaves(shell, "echo i | " + command + " > f", 2, Checks.state(" a=[1]", " [p]", " f=[]", 2, ""));
        }
    }

    /** Runs utility on an input that does not end with LF: the text, with / for LF, and a ! behind it. */
    private static void lines(Checks checks, String utility, String text, int status, String output) {
        Shell shell = Checks.after("echo '" + text + "' | tr '\n' ! | tr / '\n' > f");
        checks.same("the input", Checks.content(shell, 0), text.replace('/', '\n') + "!");
        checks.script(shell, utility + " < f", status, output);
        checks.script(shell, "cat f | " + utility, status, output);
    }

    /** echo: the arguments with blanks between, LF. */
    private static void echo(Checks checks) {
        checks.script("echo", 0, "\n");
        checks.script("echo ''", 0, "\n");
        checks.script("echo '' ''", 0, " \n");
        checks.script("echo a", 0, "a\n");
        checks.script("echo -n ' a ' '' '\n'", 0, "-n  a   \n\n");
        checks.script("echo" + FIFTEEN, 0, FIFTEEN.substring(1) + "\n");
        checks.script("echo a | echo", 0, "\n");
    }

    /** cat: the input, or the files named, each as often (one that is not there: status 1, the others are put out). */
    private static void cat(Checks checks) {
        Shell shell = Checks.after("echo x > f; echo y > g; > e");
        checks.script(shell, "cat", 0, "");
        checks.script(shell, "echo i | cat", 0, "i\n");
        checks.script(shell, "echo i | cat f", 0, "x\n");
        checks.script(shell, "cat < g f", 0, "x\n");
        checks.script(shell, "cat f g f f", 0, "x\ny\nx\nx\n");
        checks.script(shell, "cat e; cat e f e", 0, "x\n");
        checks.script(shell, "cat none", 1, "");
        checks.script(shell, "echo i | cat none", 1, "");
        checks.script(shell, "cat none f g", 1, "x\ny\n");
        checks.script(shell, "cat f none g", 1, "x\ny\n");
        checks.script(shell, "cat f g none", 1, "x\ny\n");
        checks.script(shell, "cat '' f", 1, "x\n");
        checks.script(shell, "cat 123456789 f", 1, "x\n");
        checks.script(shell, "cat f f f f f f f f f f f f f f f", 0, "x\n".repeat(15));
    }

    /** true; false (1). .. (All these with any number of arguments, but for true and false.) */
    private static void trueAndFalse(Checks checks) {
        checks.script("true", 0, "");
        checks.script("false", 1, "");
        checks.script("echo a | true", 0, "");
        checks.script("echo a | false", 1, "");
        refused(checks, "true", "x", "''", "a b", FIFTEEN);
        refused(checks, "false", "x", "''", "a b", FIFTEEN);
    }

    /** set: the arguments are the positions. */
    private static void set(Checks checks) {
        Shell shell = Checks.after("set p q r");
        checks.leaves(shell, "set s", 0, Checks.state("", " [s]", "", 0, ""));
        checks.leaves(shell, "set '' 'a b' ''", 0, Checks.state("", " [] [a b] []", "", 0, ""));
        checks.leaves(shell, "set \"$2\" $2 $1", 0, Checks.state("", " [a b] [a] [b]", "", 0, ""));
        checks.leaves(shell, "echo i | cat; set", 0, Checks.state("", "", "", 0, "i\n"));
        checks.leaves(shell, "set -e = set", 0, Checks.state("", " [-e] [=] [set]", "", 0, ""));
    }

    /** unset: variables of these names go. */
    private static void unset(Checks checks) {
        Shell shell = Checks.after("a=1 b=2 c=3 ab=4; set a; > b");
        checks.leaves(shell, "unset", 0, Checks.state(" a=[1] ab=[4] b=[2] c=[3]", " [a]", " b=[]", 0, ""));
        checks.leaves(shell, "unset none '' 'a b' toolongname $none", 0,
            Checks.state(" a=[1] ab=[4] b=[2] c=[3]", " [a]", " b=[]", 0, ""));
        checks.leaves(shell, "unset a a c", 0, Checks.state(" ab=[4] b=[2]", " [a]", " b=[]", 0, ""));
        checks.leaves(shell, "unset" + FIFTEEN, 0, Checks.state(" ab=[4]", " [a]", " b=[]", 0, ""));
        checks.leaves(shell, "unset ab; unset ab", 0, Checks.state("", " [a]", " b=[]", 0, ""));
        checks.leaves(shell, "unset=1; unset x", 0, Checks.state(" unset=[1]", " [a]", " b=[]", 0, ""));
        checks.leaves(shell, "unset unset", 0, Checks.state("", " [a]", " b=[]", 0, ""));
    }

    /** rm: files go (one to which its own > or >> goes, too); status 1 if one was not there. */
    private static void rm(Checks checks) {
        Shell shell = Checks.after("echo x > a; echo y > b; echo z > c; a=1");
        checks.leaves(shell, "rm", 0, Checks.state(" a=[1]", "", " a=[x\n] b=[y\n] c=[z\n]", 0, ""));
        checks.leaves(shell, "rm none", 1, Checks.state(" a=[1]", "", " a=[x\n] b=[y\n] c=[z\n]", 1, ""));
        checks.leaves(shell, "rm ''", 1, Checks.state(" a=[1]", "", " a=[x\n] b=[y\n] c=[z\n]", 1, ""));
        checks.leaves(shell, "rm 123456789", 1, Checks.state(" a=[1]", "", " a=[x\n] b=[y\n] c=[z\n]", 1, ""));
        checks.leaves(shell, "rm none b", 1, Checks.state(" a=[1]", "", " a=[x\n] c=[z\n]", 1, ""));
        checks.leaves(shell, "rm a > a", 0, Checks.state(" a=[1]", "", " c=[z\n]", 0, ""));
        checks.leaves(shell, "rm c >> c", 0, Checks.state(" a=[1]", "", "", 0, ""));
        checks.leaves(shell, "rm d > d; rm d", 1, Checks.state(" a=[1]", "", "", 1, ""));
        checks.leaves(shell, "> e; rm e f > g", 1, Checks.state(" a=[1]", "", " g=[]", 1, ""));
        checks.leaves(shell, "rm" + FIFTEEN + "; rm g < g", 0, Checks.state(" a=[1]", "", "", 0, ""));
        checks.leaves(shell, "> rm; > e; rm e", 0, Checks.state(" a=[1]", "", " rm=[]", 0, ""));
        checks.leaves(shell, "rm rm", 0, Checks.state(" a=[1]", "", "", 0, ""));
        checks.leaves(shell, "> e; rm e e", 1, Checks.state(" a=[1]", "", "", 1, ""));
    }

    /** wc: how many LFs, a blank, how many characters the input has, LF. */
    private static void wc(Checks checks) {
        checks.script("wc", 0, "0 0\n");
        lines(checks, "wc", "", 0, "0 1\n");
        lines(checks, "wc", "/", 0, "1 2\n");
        lines(checks, "wc", "a/b", 0, "1 4\n");
        checks.script("echo | wc", 0, "1 1\n");
        checks.script("echo 'a\n\n' | wc", 0, "3 4\n");
        for (int size : new int[] {9, 10, 39}) {
            checks.script("echo '" + "\n".repeat(size - 1) + "' | wc", 0, size + " " + size + "\n");
        }
        String forty = "x".repeat(40);
        checks.script("echo " + forty + " " + forty + " 345678901234567 | wc", 0, "1 98\n");
        checks.script("echo " + forty + " " + forty + " 3456789012345678 | wc", 0, "1 99\n");
        checks.script("echo " + forty + " " + forty + " 34567890123456789 | wc", 0, "1 100\n");
        Shell shell = Checks.after("a='" + "\n".repeat(39) + "'; echo \"$a\" > f; echo \"$a\" >> f");
        checks.script(shell, "cat f f f | wc", 0, "240 240\n");
    }

    /** head n: the first n LINES (n in 1 or 2 digits). */
    private static void head(Checks checks) {
        lines(checks, "head 0", "a/b/c", 0, "");
        lines(checks, "head 1", "a/b/c", 0, "a\n");
        lines(checks, "head 2", "a/b/c", 0, "a\nb\n");
        lines(checks, "head 3", "a/b/c", 0, "a\nb\nc!\n");
        lines(checks, "head 4", "a/b/c", 0, "a\nb\nc!\n");
        lines(checks, "head 00", "a/b/c", 0, "");
        lines(checks, "head 02", "a/b/c", 0, "a\nb\n");
        lines(checks, "head 99", "a/b/c", 0, "a\nb\nc!\n");
        lines(checks, "head 2", "//", 0, "\n\n");
        checks.script("head 1", 0, "");
        String eleven = "1\n2\n3\n4\n5\n6\n7\n8\n9\n10\n11";
        checks.script("echo '" + eleven + "' | head 9", 0, eleven.substring(0, 18));
        checks.script("echo '" + eleven + "' | head 10", 0, eleven.substring(0, 21));
        Shell shell = Checks.after("a='" + "\n".repeat(39) + "'; echo \"$a\" > f; echo \"$a\" >> f");
        checks.script(shell, "cat f f | head 99 | wc; cat f f | head 98 | wc", 0, "99 99\n98 98\n");
        refused(checks, "head", "", "''", "000", "100", "001", "x", "1x", "x1", "-1", "+1", "' 1'", "'1 '", "1 2", "/", ":", "1/",
            "1:");
    }

    /** rev: each line turned round. */
    private static void rev(Checks checks) {
        lines(checks, "rev", "", 0, "!\n");
        lines(checks, "rev", "ab", 0, "!ba\n");
        lines(checks, "rev", "abc//d e/f", 0, "cba\n\ne d\n!f\n");
        checks.script("rev", 0, "");
        checks.script("echo | rev", 0, "\n");
    }

    /** sort: the lines by rising text. */
    private static void sort(Checks checks) {
        lines(checks, "sort", "b/a", 0, "a!\nb\n");
        lines(checks, "sort", "b/ab/abc/a//B/ /~/b/b", 0, "\n \nB\na\nab\nabc\nb\nb\nb!\n~\n");
        lines(checks, "sort", "10/9/1", 0, "1!\n10\n9\n");
        checks.script("echo 'b\na\nc\na' | sort", 0, "a\na\nb\nc\n");
        checks.script("sort", 0, "");
        checks.script("echo | sort", 0, "\n");
    }

    /** uniq: lines but those that are as the one before. */
    private static void uniq(Checks checks) {
        lines(checks, "uniq", "a/a/b/b/b/a", 0, "a\nb\na!\n");
        checks.script("echo 'a\na\na' | uniq", 0, "a\n");
        checks.script("echo 'a\nb\na' | uniq", 0, "a\nb\na\n");
        checks.script("echo '\n\na\nab\nab\na' | uniq", 0, "\na\nab\na\n");
        checks.script("echo 'ab\nac\nbc' | uniq", 0, "ab\nac\nbc\n");
        checks.script("uniq", 0, "");
        checks.script("echo | uniq", 0, "\n");
    }

    /** grep t: lines in which t stands (of an empty t all); status 1 if none. */
    private static void grep(Checks checks) {
        lines(checks, "grep a", "a/ba/ab/bab/b", 0, "a\nba\nab\nbab\n");
        lines(checks, "grep ab", "a/b/aab/abb/ba", 0, "aab\nabb\n");
        lines(checks, "grep c!", "a/c/c", 0, "c!\n");
        lines(checks, "grep x", "a/b", 1, "");
        lines(checks, "grep ''", "a//b", 0, "a\n\nb!\n");
        lines(checks, "grep abc", "ab/a", 1, "");
        lines(checks, "grep a*", "a/a*", 0, "a*!\n");
        lines(checks, "grep '\n'", "a/b", 1, "");
        checks.script("grep ''", 1, "");
        checks.script("grep a", 1, "");
        checks.script("echo | grep ''", 0, "\n");
        checks.script("echo | grep a", 1, "");
        refused(checks, "grep", "", "a b", "'' ''", FIFTEEN);
    }

    /** tr x y: each character x of the input becomes y (one character each). */
    private static void tr(Checks checks) {
        checks.script("echo abcab | tr a x", 0, "xbcxb\n");
        checks.script("echo abc | tr a a", 0, "abc\n");
        checks.script("echo abc | tr x y", 0, "abc\n");
        checks.script("echo ab | tr '\n' x", 0, "abx");
        checks.script("echo ab | tr b '\n'", 0, "a\n\n");
        checks.script("echo 'a b' | tr ' ' '*'", 0, "a*b\n");
        checks.script("tr a b", 0, "");
        refused(checks, "tr", "", "a", "''", "a ''", "'' a", "'' ''", "ab c", "a bc", "a b c", "a b ''", FIFTEEN);
    }

    /** test a: status 0 if a is not empty .. else 1 (by how many arguments there are: -e alone is test a .. */
    private static void testOfOne(Checks checks) {
        for (String argument : new String[] {"a", "' '", "-e", "=", "!=", "0", "'\n'"}) {
            checks.script("echo i | test " + argument, 0, "");
        }
        checks.script("test ''", 1, "");
        checks.script("test \"$none\"", 1, "");
    }

    /** .. test a = b, test a != b .. -e = x is test a = b .. */
    private static void testOfThree(Checks checks) {
        for (String same : new String[] {"a OP a", "'' OP ''", "-e OP -e", "= OP =", "!= OP !=", "' ' OP ' '"}) {
            checks.script("test " + same.replace("OP", "="), 0, "");
            checks.script("test " + same.replace("OP", "!="), 1, "");
        }
        for (String other : new String[] {"a OP b", "a OP ''", "'' OP a", "a OP ab", "ab OP a", "-e OP x", "a OP A", "01 OP 1"}) {
            checks.script("test " + other.replace("OP", "="), 1, "");
            checks.script("test " + other.replace("OP", "!="), 0, "");
        }
        checks.script("> =; test -e = x; echo $?; test -e = -e", 0, "1\n");
    }

    /** .. test -e f (a file is there) .. */
    private static void testOfTwo(Checks checks) {
        Shell shell = Checks.after("echo x > f; > e; > =; a=1");
        checks.script(shell, "test -e f && test -e e && test -e =", 0, "");
        checks.script(shell, "test -e a", 1, "");
        checks.script(shell, "test -e ''", 1, "");
        checks.script(shell, "test -e -e", 1, "");
        checks.script(shell, "test -e 123456789", 1, "");
        checks.script(shell, "rm f; test -e f", 1, "");
        checks.script(shell, "test -e g > g", 0, "");
    }

    /** .. none, or two others: status 2). */
    private static void testOfOthers(Checks checks) {
        refused(checks, "test", "", "a b", "f -e", "a =", "= a", "'' ''", "-E f", "-ef f", "a b c", "-e f g", "a == a", "a '' a",
            "a = b c", "-e a = b", "a = a = a", FIFTEEN);
    }

    /** exit n (1 to 3 digits, 0 .. 255; or none: $?): the script ends with that status .. */
    private static void exitNumbers(Checks checks) {
        for (String number : new String[] {"0", "1", "9", "10", "99", "100", "254", "255", "00", "000", "007", "010"}) {
            int status = Integer.parseInt(number);
            checks.leaves(new Shell(), "echo a; exit " + number + "; echo b", status, Checks.state("", "", "", status, "a\n"));
        }
        refused(checks, "exit", "256", "260", "300", "999", "0000", "0001", "1000", "''", "-1", "x", "1x", "x1", "' 1'", "1 2",
            "'' ''", "/", ":", FIFTEEN);
        checks.leaves(new Shell(), "exit; echo a", 0, Checks.state("", "", "", 0, ""));
        checks.leaves(new Shell(), "nope; exit; echo a", 127, Checks.state("", "", "", 127, ""));
        Shell shell = Checks.after("exit 255");
        checks.leaves(shell, "exit", 255, Checks.state("", "", "", 255, ""));
    }

    /** .. whatever && || ; LF stand behind .. */
    private static void exitEndsTheScript(Checks checks) {
        for (String joint : new String[] {" && ", " || ", "; ", "\n", " && true || ", " || true && "}) {
            checks.leaves(new Shell(), "exit 0" + joint + "a=1 > f", 0, Checks.state("", "", "", 0, ""));
            checks.leaves(new Shell(), "exit 3" + joint + "a=1 > f; echo b | cat", 3, Checks.state("", "", "", 3, ""));
        }
        checks.leaves(new Shell(), "a=1; true && exit 4 || b=2; c=3", 4, Checks.state(" a=[1]", "", "", 4, ""));
        checks.leaves(new Shell(), "false && exit 4; b=2", 0, Checks.state(" b=[2]", "", "", 0, ""));
        Shell shell = Checks.after("exit 5; a=1");
        checks.leaves(shell, "a=$?", 0, Checks.state(" a=[5]", "", "", 0, ""));
    }

    /** .. (in a pipeline of more commands that command alone; it puts nothing out). */
    private static void exitInAPipeline(Checks checks) {
        checks.script("exit 3 | echo a; echo $?", 0, "a\n0\n");
        checks.script("echo a | exit 3; echo $?", 0, "3\n");
        checks.script("echo a | exit 3 && echo b || echo c", 0, "c\n");
        checks.script("echo a | exit 3 | wc", 0, "0 0\n");
        checks.script("echo a | exit 0", 0, "");
        checks.script("exit 4 | exit 5 | exit 6; echo $?", 0, "6\n");
        checks.script("false; exit 4 | exit; echo $?", 0, "1\n");
        checks.script("exit 3 > f; echo a", 3, "");
    }

    /** Other arguments than said (true, false, wc, rev, sort, uniq have none): status 2, nothing is put out. */
    private static void utilitiesWithoutArguments(Checks checks) {
        for (String utility : new String[] {"wc", "rev", "sort", "uniq"}) {
            refused(checks, utility, "x", "''", "f", "a b", FIFTEEN);
        }
    }

    /** All others: status 0. */
    private static void statusZero(Checks checks) {
        for (String command : new String[] {"echo", "cat", "true", "set", "unset", "unset x", "rm", "wc", "head 1", "rev", "sort",
            "uniq", "tr a b"}) {
            checks.leaves(Checks.after("exit 9"), command + " > f", 0,
                Checks.state("", "", " f=[" + (command.equals("echo") ? "\n" : command.equals("wc") ? "0 0\n" : "") + "]", 0, ""));
        }
    }

    /** No such utility: 127. */
    private static void noSuchUtility(Checks checks) {
        for (String word : new String[] {"nope", "''", "Echo", "ech", "echoo", "'echo '", "cat.", "-e", "[", "t", "wcc", "*"}) {
            checks.leaves(new Shell(), "echo a | " + word, 127, Checks.state("", "", "", 127, ""));
            checks.leaves(new Shell(), "a=1 " + word + " b c > f", 127, Checks.state("", "", " f=[]", 127, ""));
        }
    }

    /** LINES .. are what stands before each LF, and what is behind the last one, if that is not empty; each .. with LF. */
    private static void linesOfAnInput(Checks checks) {
        for (String utility : new String[] {"head 9", "sort", "grep ''"}) {
            checks.script("echo a | " + utility, 0, "a\n");
            checks.script("echo a | tr '\n' b | " + utility, 0, "ab\n");
            checks.script("echo | " + utility, 0, "\n");
            checks.script("echo '\n' | " + utility, 0, "\n\n");
            checks.script("> e; cat e | " + utility + " | wc", 0, "0 0\n");
        }
        for (String utility : new String[] {"head 9", "rev", "sort", "uniq", "grep ''"}) {
            lines(checks, utility, "/", 0, "\n!\n");
            checks.script(utility + " | wc", 0, "0 0\n");
        }
        checks.script("echo 'a\n' | rev", 0, "a\n\n");
        Shell shell = Checks.after("a='" + "\n".repeat(39) + "'; echo \"$a\" > f; echo \"$a\" >> f");
        for (String utility : new String[] {"sort", "rev", "grep ''"}) {
            checks.script(shell, "cat f f f | " + utility, 0, "\n".repeat(240));
        }
        checks.script("echo a | tr a '\n' | uniq", 0, "\n");
    }

    public static void main(String[] args) {
        Checks checks = new Checks("utility boundaries");
        echo(checks);
        cat(checks);
        trueAndFalse(checks);
        set(checks);
        unset(checks);
        rm(checks);
        wc(checks);
        head(checks);
        rev(checks);
        sort(checks);
        uniq(checks);
        grep(checks);
        tr(checks);
        testOfOne(checks);
        testOfThree(checks);
        testOfTwo(checks);
        testOfOthers(checks);
        exitNumbers(checks);
        exitEndsTheScript(checks);
        exitInAPipeline(checks);
        utilitiesWithoutArguments(checks);
        statusZero(checks);
        noSuchUtility(checks);
        linesOfAnInput(checks);
        checks.end();
    }
}
