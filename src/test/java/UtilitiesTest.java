/** Promise 4: the utilities. */
public final class UtilitiesTest {
    private static void echoAndCat(Checks checks) {
        checks.script("echo", 0, "\n");
        checks.script("echo a 'b  c' '' d", 0, "a b  c  d\n");
        checks.script("echo -n", 0, "-n\n");
        checks.script("echo x | cat", 0, "x\n");
        checks.script("echo a > f; echo b > g; echo x | cat f g f", 0, "a\nb\na\n");
        checks.script("echo a > f; cat none f '' f toolongname", 1, "a\na\n");
    }

    private static void trueAndFalse(Checks checks) {
        checks.script("true", 0, "");
        checks.script("false", 1, "");
        checks.script("true x", 2, "");
        checks.script("false ''", 2, "");
    }

    private static void setAndUnset(Checks checks) {
        checks.script("set a 'b c' ''; echo $# $2; set x; echo $# $1 $2; set; echo $#", 0, "3 b c\n1 x\n0\n");
        checks.script("set 1 2 3 4 5 6 7 8 9; echo $#$9", 0, "99\n");
        checks.script("set a b; set $2 $1; echo $1$2", 0, "ba\n");
        checks.script("a=1; b=2; c=3; unset a c none 'x y' ''; echo $a$b$c", 0, "2\n");
        checks.script("a=1; unset; unset b; echo $?$a", 0, "01\n");
    }

    private static void rm(Checks checks) {
        checks.script("> a; > b; > c; rm a c; echo *", 0, "b\n");
        checks.script("> a; rm a none || echo $? *", 0, "1 *\n");
        checks.script("> a; rm a a", 1, "");
        checks.script("> a; rm ''; echo $?; rm; echo $? *", 0, "1\n0 a\n");
        checks.script("echo x > a; rm a; echo y >> a; cat a", 0, "y\n");
    }

    private static void wc(Checks checks) {
        checks.script("wc", 0, "0 0\n");
        checks.script("echo ab | wc", 0, "1 3\n");
        checks.script("echo 'a\n\nb' | tr a '\n' | wc", 0, "4 5\n");
        checks.script("echo ab | tr '\n' c | wc", 0, "0 3\n");
        checks.script("echo ab | wc x", 2, "");
        String forty = "x".repeat(40);
        checks.script("a=" + forty + "; echo $a $a $a | wc", 0, "1 123\n");
    }

    private static void head(Checks checks) {
        checks.script("echo 'a\nb\nc' | head 2", 0, "a\nb\n");
        checks.script("echo 'a\nb\nc' | head 0", 0, "");
        checks.script("echo 'a\n\nc' | head 02", 0, "a\n\n");
        checks.script("echo 'a\nb' | head 99", 0, "a\nb\n");
        checks.script("echo a | tr '\n' b | head 1", 0, "ab\n");
        checks.script("head 3", 0, "");
        for (String wrong : new String[] {"", "''", "100", "x", "-1", "1x", "1 2", "'1 '", ":", "/"}) {
            checks.script("echo a | head " + wrong, 2, "");
        }
    }

    private static void rev(Checks checks) {
        checks.script("echo 'abc\n\nd e' | rev", 0, "cba\n\ne d\n");
        checks.script("echo ab | tr '\n' c | rev", 0, "cba\n");
        checks.script("rev", 0, "");
        checks.script("echo a | rev x", 2, "");
    }

    private static void sort(Checks checks) {
        checks.script("echo 'b\nab\na\nB\n\nb\n1\nabc' | sort", 0, "\n1\nB\na\nab\nabc\nb\nb\n");
        checks.script("echo 'b\na' | tr '\n' x | sort", 0, "bxax\n");
        checks.script("echo 'abd\nabc\nacb\nabca\nbaa' | sort", 0, "abc\nabca\nabd\nacb\nbaa\n");
        checks.script("sort; echo 'b\na' | sort x", 2, "");
        StringBuilder down = new StringBuilder();
        StringBuilder up = new StringBuilder();
        for (char c = 'a'; c <= 'r'; c++) {
            down.insert(0, c + "\n");
            up.append(c).append("\n");
        }
        checks.script("echo '" + down.substring(0, down.length() - 1) + "' | sort", 0, up.toString());
    }

    private static void uniq(Checks checks) {
        checks.script("echo 'a\na\nb\na\na\n\n\nab\na' | uniq", 0, "a\nb\na\n\nab\na\n");
        checks.script("echo 'ax' > f; echo 'a\na' | tr '\n' x | cat >> f; uniq < f", 0, "ax\naxax\n");
        checks.script("echo 'xab\nxab\nxac\nyac\nyac' | uniq", 0, "xab\nxac\nyac\n");
        checks.script("echo 'a\na' | uniq x", 2, "");
        checks.script("uniq", 0, "");
    }

    private static void grep(Checks checks) {
        checks.script("echo 'abc\nb\ncab\naab' | grep ab", 0, "abc\ncab\naab\n");
        checks.script("echo 'abc\n\nb' | grep ''", 0, "abc\n\nb\n");
        checks.script("echo 'abc\nb' | grep abcd", 1, "");
        checks.script("grep ''", 1, "");
        checks.script("echo 'a*b\nab' | grep 'a*b'", 0, "a*b\n");
        checks.script("echo 'a\nb' | grep 'a\nb'", 1, "");
        checks.script("echo ab | tr '\n' c | grep c", 0, "abc\n");
        checks.script("echo a | grep", 2, "");
        checks.script("echo a | grep a a", 2, "");
    }

    private static void tr(Checks checks) {
        checks.script("echo 'a b a' | tr a x", 0, "x b x\n");
        checks.script("echo 'a b' | tr ' ' '\n'", 0, "a\nb\n");
        checks.script("echo ab | tr '\n' .", 0, "ab.");
        checks.script("echo ab | tr a b | tr b a", 0, "aa\n");
        checks.script("tr a b", 0, "");
        for (String wrong : new String[] {"", "a", "a bc", "ab c", "a ''", "'' a", "a b c"}) {
            checks.script("echo a | tr " + wrong, 2, "");
        }
    }

    private static void test(Checks checks) {
        String[] holds = {"a", "-e", "=", "!=", "' '", "a = a", "'' = ''", "a != b", "a != ''", "-e f", "-e = -e", "= = =",
            "! != =", "-e != x"};
        String[] fails = {"''", "a = b", "a = ''", "a != a", "-e g", "-e ''", "-e = x", "a = ab", "-e !="};
        String[] wrong = {"", "a b", "f -e", "'' ''", "a b c", "-e f g", "a == a", "a = b c", "a '' a", "-E f"};
        for (String arguments : holds) {
            checks.script("> f; test " + arguments, 0, "");
        }
        for (String arguments : fails) {
            checks.script("> f; test " + arguments, 1, "");
        }
        for (String arguments : wrong) {
            checks.script("> f; test " + arguments, 2, "");
        }
    }

    private static void manyLines(Checks checks) {
        Shell shell = Checks.after("a='" + "\n".repeat(39) + "'; echo \"$a\" > f; echo \"$a\" >> f");
        checks.script(shell, "cat f f f | wc", 0, "240 240\n");
        checks.script(shell, "cat f f f | sort | head 99 | wc", 0, "99 99\n");
        checks.script(shell, "cat f f f | sort | rev | grep '' | wc", 0, "240 240\n");
        checks.script(shell, "cat f f f | uniq", 0, "\n");
    }

    private static void unknown(Checks checks) {
        for (String word : new String[] {"nope", "''", "Echo", "ech", "echoo", "'echo '", "./cat", "-e"}) {
            checks.script("echo a | " + word + " b", 127, "");
        }
    }

    public static void main(String[] args) {
        Checks checks = new Checks("utilities");
        echoAndCat(checks);
        trueAndFalse(checks);
        setAndUnset(checks);
        rm(checks);
        wc(checks);
        head(checks);
        rev(checks);
        sort(checks);
        uniq(checks);
        grep(checks);
        tr(checks);
        test(checks);
        manyLines(checks);
        unknown(checks);
        checks.end();
    }
}
