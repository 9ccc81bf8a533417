/** Promises 4 and 5: what is a script, and where one that is none is MALFORMED. */
public final class SyntaxTest {
    private static void operatorsWhereNoneMayStand(Checks checks) {
        checks.malformed(";", 0);
        checks.malformed("|", 0);
        checks.malformed("&& a", 0);
        checks.malformed("  || a", 2);
        checks.malformed("a ;; b", 3);
        checks.malformed("a ; ; b", 4);
        checks.malformed("a\n;b", 2);
        checks.malformed("a\n&& b", 2);
        checks.malformed("a | | b", 4);
        checks.malformed("a ||| b", 4);
        checks.malformed("a && && b", 5);
        checks.malformed("a && ; b", 5);
        checks.malformed("a &&\n\n; b", 6);
        checks.malformed("a |\n|| b", 4);
        checks.malformed("a > > b", 4);
        checks.malformed("a <<b", 3);
        checks.malformed("a >>>b", 4);
        checks.malformed("a <> b", 3);
        checks.malformed("a >| b", 3);
        checks.malformed("a > && b", 4);
        checks.malformed("a >\nb", 3);
        checks.malformed("a > ; b", 4);
        checks.malformed("a > # c\nb", 7);
    }

    private static void strayCharacters(Checks checks) {
        checks.malformed("(", 0);
        checks.malformed("echo )", 5);
        checks.malformed("ab(c", 2);
        checks.malformed("a=(1)", 2);
        checks.malformed("$(a)", 1);
        checks.malformed("> (", 2);
        checks.malformed("a & b", 2);
        checks.malformed("a&", 1);
        checks.malformed("& a", 0);
        checks.malformed("a &&& b", 4);
        checks.malformed("a |& b", 3);
        checks.malformed("a > &1", 4);
    }

    private static void endsWhereMoreIsToCome(Checks checks) {
        checks.malformed("a &&", 4);
        checks.malformed("a ||  ", 6);
        checks.malformed("a | # c", 7);
        checks.malformed("a |\n\n", 5);
        checks.malformed("a >", 3);
        checks.malformed("<  ", 3);
        checks.malformed("a >>#f", 6);
        checks.malformed("\\", 1);
        checks.malformed("a\\\nb", 2);
        checks.malformed("'abc", 4);
        checks.malformed("'a\n\"$(", 6);
        checks.malformed("a \"b", 4);
        checks.malformed("\"a\\", 3);
        checks.malformed("\"a\\\"", 4);
        checks.malformed("\"a\\\nb\"", 3);
        checks.malformed("\"a${b}", 6);
        checks.malformed("\"'\"'", 4);
    }

    private static void braces(Checks checks) {
        checks.malformed("${", 2);
        checks.malformed("${}", 2);
        checks.malformed("${1}", 2);
        checks.malformed("${#}", 2);
        checks.malformed("${?}", 2);
        checks.malformed("${ a}", 2);
        checks.malformed("${a", 3);
        checks.malformed("${a }", 3);
        checks.malformed("${a-b}", 3);
        checks.malformed("${a:", 4);
        checks.malformed("${a:x}", 4);
        checks.malformed("${a:=x}", 4);
        checks.malformed("${a:-", 5);
        checks.malformed("${a:-b c", 8);
        checks.malformed("${a:-b\n}", 6);
        checks.malformed("${a:-'b'}", 5);
        checks.malformed("\"${a:-\"b\"}\"", 6);
        checks.malformed("${a:-\\b}", 5);
        checks.malformed("${a:-$b}", 5);
        checks.malformed("\"${\"", 3);
        checks.script("echo ${a:-} ${a:-|&;<>(){#}x", 0, "|&;<>(){#x\n");
    }

    private static void theFirstOneCounts(Checks checks) {
        checks.malformed("a ;; 'b", 3);
        checks.malformed("echo ${a:x} (", 9);
        checks.malformed("echo x > f; echo y; (", 20);
        checks.malformed("echo 012345678901234567890123456789012345678901; )", 49);
        Shell shell = Checks.after("a=1; echo o; false");
        String before = Checks.state(shell);
        checks.same("a malformed script", Checks.run(shell, "a=2; echo x > f; set p; true; |"), Checks.MALFORMED);
        checks.same("the state behind it", Checks.state(shell), before);
    }

    private static void placeStays(Checks checks) {
        Shell shell = new Shell();
        Checks.run(shell, "echo (");
        checks.same("place", shell.place(), 5);
        Checks.run(shell, "echo a");
        checks.same("place behind a good run", shell.place(), 5);
        Checks.run(shell, "longname=1");
        checks.same("place behind too much", shell.place(), 5);
        shell.wipe();
        checks.same("place behind wipe", shell.place(), 5);
        Checks.run(shell, ")");
        checks.same("place of a later one", shell.place(), 0);
        Checks.run(shell, "\n".repeat(239) + "(");
        checks.same("place of the last of 240 tokens", shell.place(), 239);
        checks.same("the longest quotes", Checks.run(shell, "\"" + "a".repeat(238) + "\""), Checks.TOO_MUCH);
        checks.same("the longest quotes, left open", Checks.run(shell, "\"" + "a".repeat(239)), Checks.MALFORMED);
        checks.same("their place", shell.place(), 240);
        String longest = "a".repeat(239) + "|";
        Checks.run(shell, longest);
        checks.same("place at the end of the longest script", shell.place(), 240);
    }

    private static void separatorsAndComments(Checks checks) {
        checks.script("", 0, "");
        checks.script("\n\n  \n", 0, "");
        checks.script("# only | a ( comment", 0, "");
        checks.script("#a\n#b\necho c#d #e\n#f", 0, "c#d\n");
        checks.script("echo a;echo b\necho c;\n\n echo d ; ", 0, "a\nb\nc\nd\n");
        checks.script("true&&#x\n\n#y\necho b|\n\ncat", 0, "b\n");
        checks.script("false ||\necho a", 0, "a\n");
        checks.script("echo a;#b;echo c", 0, "a\n");
        checks.script("echo ''#a $#b \\#c \"#d\"", 0, "#a 0b #c #d\n");
        checks.script("echo a>f;cat<f>>g;cat f g", 0, "a\na\n");
        checks.script("echo {} [a] !~%^:,./+-@`", 0, "{} [a] !~%^:,./+-@`\n");
    }

    private static void assignments(Checks checks) {
        checks.script("a=1 b=2 echo a=3", 0, "a=3\n");
        Shell shell = Checks.after("> f a=1 > g b_2=x=y _=");
        checks.same("assignments beside redirections", Checks.state(shell),
            "variables _=[] a=[1] b_2=[x=y]; positions; files f=[] g=[]; status 0; output 0 []");
        checks.script("'a'=1", 127, "");
        checks.script("a\\=1", 127, "");
        checks.script("$a=1", 127, "");
        checks.script("1a=1", 127, "");
        checks.script("=1", 127, "");
        checks.script("a+=1", 127, "");
        checks.script("> a=1; echo *", 0, "a=1\n");
        checks.script("a=#b; echo $a", 0, "#b\n");
        checks.script("a='x y'\"z\"\\ w$#; echo \"$a\"", 0, "x yz w0\n");
    }

    public static void main(String[] args) {
        Checks checks = new Checks("syntax");
        operatorsWhereNoneMayStand(checks);
        strayCharacters(checks);
        endsWhereMoreIsToCome(checks);
        braces(checks);
        theFirstOneCounts(checks);
        placeStays(checks);
        separatorsAndComments(checks);
        assignments(checks);
        checks.end();
    }
}
