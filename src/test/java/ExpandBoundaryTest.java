/** The boundary cases of EXPANDING, FIELDS and PATTERNS in the document's Terms: a test for each sentence. */
public final class ExpandBoundaryTest {
    /** Runs set with these words, and looks at the positions. */
    private static void fields(Checks checks, Shell shell, String words, String... due) {
        Checks.run(shell, "set " + words);
        StringBuilder positions = new StringBuilder();
        for (int i = 1; i <= shell.count(1); i++) {
            positions.append('[').append(Checks.position(shell, i)).append(']');
        }
        checks.same("the fields of " + words, positions.toString(), due.length == 0 ? "" : "[" + String.join("][", due) + "]");
    }

    /** .. those of plain pieces and TEXTs are not quoted, those behind \ and in '..' and ".." are .. */
    private static void whatIsQuoted(Checks checks) {
        Shell shell = Checks.after("> x1; p='*' q='x?' b='i j'");
        fields(checks, shell, "x* x? * ?1", "x1", "x1", "x1", "x1");
        fields(checks, shell, "${n:-*} ${n:-x?} ${n:-i j}", "x1", "x1", "i", "j");
        fields(checks, shell, "\\* x\\? i\\ j", "*", "x?", "i j");
        fields(checks, shell, "'*' 'x?' 'i j'", "*", "x?", "i j");
        fields(checks, shell, "\"*\" \"x?\" \"i j\"", "*", "x?", "i j");
        fields(checks, shell, "\"\\*\" \"\\\\*\"", "\\*", "\\*");
    }

    /** .. (also those of parameters and TEXTs there). */
    private static void whatParametersInQuotesGive(Checks checks) {
        Shell shell = Checks.after("> x1; p='*' q='x?' b='i j'");
        fields(checks, shell, "$p $q $b", "x1", "x1", "i", "j");
        fields(checks, shell, "\"$p\" \"$q\" \"$b\"", "*", "x?", "i j");
        fields(checks, shell, "\"${p}\" \"${n:-*}\" \"${n:-i j}\" \"${b:-n}\"", "*", "*", "i j", "i j");
        Checks.run(shell, "set '?1' 'k l'");
        fields(checks, shell, "$1 \"$1\" $2 \"$2\"", "x1", "?1", "k", "l", "k l");
    }

    /** $NAME: the value (none: nothing) .. */
    private static void valuesThatAreNot(Checks checks) {
        Shell shell = Checks.after("a=1 e=");
        fields(checks, shell, "[$a] [$e] [$n] [${a}] [${n}]", "[1]", "[]", "[]", "[1]", "[]");
        fields(checks, shell, "$n $e ${n} ${e}");
        fields(checks, shell, "\"$n\" \"$e\"", "", "");
        checks.leaves(shell, "n=$n; set", 0, Checks.state(" a=[1] e=[] n=[]", "", "", 0, ""));
    }

    /** ${NAME:-TEXT}: the value, or TEXT if it is none or empty .. */
    private static void textsForNoneOrEmpty(Checks checks) {
        Shell shell = Checks.after("a=1 e= b=' '");
        fields(checks, shell, "${a:-t} ${e:-t} ${n:-t} ${a:-} ${e:-} ${n:-}", "1", "t", "t", "1");
        fields(checks, shell, "\"${b:-t}\" ${b:-t}", " ");
        fields(checks, shell, "\"${e:-}\" \"${n:-}\"", "", "");
        checks.leaves(shell, "${e:-set} ${n:-}", 0, Checks.state(" a=[1] b=[ ] e=[]", "", "", 0, ""));
    }

    /** .. $1: a position's value .. */
    private static void positionsThatAreNot(Checks checks) {
        Shell shell = Checks.after("set a ''");
        checks.script(shell, "echo [$1] [$2] [$3] [$9] [\"$2\"]", 0, "[a] [] [] [] []\n");
        checks.script(shell, "set; echo [$1] [$9]", 0, "[] []\n");
        checks.script(shell, "set 1 2 3 4 5 6 7 8 9; echo $9$1", 0, "91\n");
    }

    /** .. $#: how many positions .. */
    private static void howManyPositions(Checks checks) {
        Shell shell = new Shell();
        checks.script(shell, "echo $#", 0, "0\n");
        checks.script(shell, "set ''; echo $#", 0, "1\n");
        checks.script(shell, "set 1 2 3 4 5 6 7 8 9; echo $# \"$#\"", 0, "9 9\n");
        checks.script(shell, "set; echo $#", 0, "0\n");
    }

    /** .. $?: the status of the last pipeline (the one ahead, for all commands of one), in digits. */
    private static void statusOfTheLastPipeline(Checks checks) {
        checks.script("echo $?; false; echo $?; echo $?", 0, "0\n1\n0\n");
        checks.script("exit 3 | false; echo a$? | cat; echo $?", 0, "a1\n0\n");
        checks.script("false; exit 7 | echo $? > f | echo $?; cat f", 0, "1\n1\n");
        checks.script("false; exit 7 | exit", 1, "");
        checks.script("false && true; echo $?; true || false; echo $?", 0, "1\n0\n");
        checks.script("false; a=$? b=$?; echo $a$b$?", 0, "110\n");
        for (int status : new int[] {0, 9, 10, 99, 100, 255}) {
            Shell shell = Checks.after("exit " + status);
            checks.script(shell, "echo $?$? \"$?\"", 0, status + "" + status + " " + status + "\n");
        }
    }

    /** FIELDS: unquoted blanks and LFs that parameters have given (TEXTs, too) part the word .. */
    private static void whatPartsAWord(Checks checks) {
        Shell shell = Checks.after("a='x y' l='x\ny' m=' \n \n'");
        fields(checks, shell, "$a $l", "x", "y", "x", "y");
        fields(checks, shell, "\"$a\" \"$l\"", "x y", "x\ny");
        fields(checks, shell, "${n:-x y} \"${n:-x y}\"", "x", "y", "x y");
        fields(checks, shell, "p${m}q", "p", "q");
        fields(checks, shell, "p\\ q 'p q' 'p\nq'", "p q", "p q", "p\nq");
        Checks.run(shell, "set 'x  y'");
        fields(checks, shell, "$1 \"$1\"", "x", "y", "x  y");
        fields(checks, shell, "$a$a", "x", "yx", "y");
    }

    /** .. what is between them (with the pieces at their sides) is a field .. */
    private static void piecesAtTheSides(Checks checks) {
        Shell shell = Checks.after("a='x y' b=' x ' c='x '");
        fields(checks, shell, "p$a'q r'", "px", "yq r");
        fields(checks, shell, "p${b}q", "p", "x", "q");
        fields(checks, shell, "$b$b", "x", "x");
        fields(checks, shell, "$c$c", "x", "x");
        fields(checks, shell, "\"$a\"$a\"$a\"", "x yx", "yx y");
        fields(checks, shell, "$c\\ $c", "x", " x");
    }

    /** .. unless it is empty, and no quotes (even empty ones) stand there. */
    private static void emptyFields(Checks checks) {
        Shell shell = Checks.after("e= b=' ' w='  \n  ' a=' x '");
        fields(checks, shell, "$e");
        fields(checks, shell, "$b $w $e$b$e$w ${n:- } ${n:-}");
        fields(checks, shell, "''", "");
        fields(checks, shell, "\"\"", "");
        fields(checks, shell, "''$e\"\"", "");
        fields(checks, shell, "''$b", "");
        fields(checks, shell, "$b''", "");
        fields(checks, shell, "''$b''", "", "");
        fields(checks, shell, "$b''$b''$b", "", "");
        fields(checks, shell, "\"$e\"$a\"\"", "", "x", "");
        fields(checks, shell, "$a''$a", "x", "", "x");
        fields(checks, shell, "''$w'' $w", "", "");
        fields(checks, shell, "\"${n:-}\" ${n:-}", "");
        checks.leaves(shell, "$e; $b; set", 0, Checks.state(" a=[ x ] b=[ ] e=[] w=[  \n  ]", "", "", 0, ""));
        checks.script(shell, "$e ''", 127, "");
    }

    /** PATTERNS: a field with an unquoted * or ? (parameters' too) becomes the names of all files that it matches .. */
    private static void whatIsAPattern(Checks checks) {
        Shell shell = Checks.after("> a; > ab; > 'a b'; p='a*' q='?' r='a ?b'");
        fields(checks, shell, "a* ?", "a", "a b", "ab", "a");
        fields(checks, shell, "$p $q", "a", "a b", "ab", "a");
        fields(checks, shell, "$r ${n:-?b}", "a", "ab", "ab");
        fields(checks, shell, "\\a* 'a'* a\\ *", "a", "a b", "ab", "a", "a b", "ab", "a b");
        fields(checks, shell, "a ab [a] a.", "a", "ab", "[a]", "a.");
    }

    /** .. by rising names (character by character, a name before one that goes on behind it) .. */
    private static void namesRise(Checks checks) {
        Shell shell = Checks.after("> b; > abc; > B; > ab; > '~'; > ' '; > a; > ac");
        fields(checks, shell, "*", " ", "B", "a", "ab", "abc", "ac", "b", "~");
        fields(checks, shell, "a*", "a", "ab", "abc", "ac");
        fields(checks, shell, "*b* ?", "ab", "abc", "b", " ", "B", "a", "b", "~");
        Checks.run(shell, "rm ab; > '\n'; rm B; > Ab");
        fields(checks, shell, "*", "\n", " ", "Ab", "a", "abc", "ac", "b", "~");
    }

    /** .. if there are any .. */
    private static void patternsThatMatchNothing(Checks checks) {
        Shell shell = new Shell();
        fields(checks, shell, "* ? a*b", "*", "?", "a*b");
        Checks.run(shell, "> ab");
        fields(checks, shell, "? ??? b* *a a?b", "?", "???", "b*", "*a", "a?b");
        fields(checks, shell, "'x y'* ?\"\"\\?", "x y*", "??");
    }

    /** .. (those there when the word is expanded, so ahead of the command's own redirections) .. */
    private static void filesThatAreThere(Checks checks) {
        checks.leaves(new Shell(), "echo * > f", 0, Checks.state("", "", " f=[*\n]", 0, ""));
        checks.leaves(new Shell(), "> f; echo * > g; rm f; echo * >> h", 0, Checks.state("", "", " g=[f\n] h=[g\n]", 0, ""));
        checks.leaves(new Shell(), "> f | echo *; rm f | echo *", 0, Checks.state("", "", "", 0, "f\n*\n"));
        checks.leaves(new Shell(), "> f; rm * > f", 0, Checks.state("", "", "", 0, ""));
        checks.leaves(new Shell(), "> f; rm * > g", 0, Checks.state("", "", " g=[]", 0, ""));
    }

    /** .. (* any row of characters, ? one .. */
    private static void starsAndQuestionMarks(Checks checks) {
        Shell shell = Checks.after("> a; > ab; > aXb; > aXXb; > 12345678; > '?'; > .x");
        fields(checks, shell, "a*b", "aXXb", "aXb", "ab");
        fields(checks, shell, "a?b", "aXb");
        fields(checks, shell, "a??b", "aXXb");
        fields(checks, shell, "ab* *ab **ab** a*b*", "ab", "ab", "ab", "aXXb", "aXb", "ab");
        fields(checks, shell, "? ?????? ????????", "?", "a", "??????", "12345678");
        fields(checks, shell, "????????? 1*8 1*88 *1*8*", "?????????", "12345678", "1*88", "12345678");
        fields(checks, shell, "?*", ".x", "12345678", "?", "a", "aXXb", "aXb", "ab");
    }

    /** .. ; quoted ones stand for themselves). */
    private static void quotedStarsAndQuestionMarks(Checks checks) {
        Shell shell = Checks.after("> '*'; > '?'; > '*a'; > b; > ba");
        fields(checks, shell, "'*'* \\*? \"?\" \\?*", "*", "*a", "*a", "?", "?");
        fields(checks, shell, "'*' \\* \"*a\" b'*' b\\?", "*", "*", "*a", "b*", "b?");
        fields(checks, shell, "?'*' *'?'*", "?*", "?");
    }

    /** Values of assignments and words of redirections are not parted, and no patterns. */
    private static void valuesAndRedirectionsStayWhole(Checks checks) {
        Shell shell = Checks.after("> f1; a='x  y' p='f*' l='u\nv'");
        String before = " a=[x  y] l=[u\nv] p=[f*]";
        checks.leaves(shell, "b=$a c=$p d=f? e=${n:- i  j }; unset a l p", 0,
            Checks.state(" b=[x  y] c=[f*] d=[f?] e=[ i  j ]", "", " f1=[]", 0, ""));
        shell = Checks.after("> f1; a='x  y' p='f*' l='u\nv'");
        checks.leaves(shell, "echo 1 > $a; echo 2 >> $p; echo 3 > $l; > f?; > ${n:- }", 0,
            Checks.state(before, "", "  =[] f*=[2\n] f1=[] f?=[] u\nv=[3\n] x  y=[1\n]", 0, ""));
        checks.leaves(shell, "cat < $a; cat < $p; cat < f?; cat < f*", 0,
            Checks.state(before, "", "  =[] f*=[2\n] f1=[] f?=[] u\nv=[3\n] x  y=[1\n]", 0, "1\n2\n2\n"));
        shell = Checks.after("> f1; p='f*'");
        checks.leaves(shell, "cat < $p", 1, Checks.state(" p=[f*]", "", " f1=[]", 1, ""));
    }

    public static void main(String[] args) {
        Checks checks = new Checks("expanding boundaries");
        whatIsQuoted(checks);
        whatParametersInQuotesGive(checks);
        valuesThatAreNot(checks);
        textsForNoneOrEmpty(checks);
        positionsThatAreNot(checks);
        howManyPositions(checks);
        statusOfTheLastPipeline(checks);
        whatPartsAWord(checks);
        piecesAtTheSides(checks);
        emptyFields(checks);
        whatIsAPattern(checks);
        namesRise(checks);
        patternsThatMatchNothing(checks);
        filesThatAreThere(checks);
        starsAndQuestionMarks(checks);
        quotedStarsAndQuestionMarks(checks);
        valuesAndRedirectionsStayWhole(checks);
        checks.end();
    }
}
