/** The boundary cases of THE SCRIPT in the document's Terms: a test for each sentence that names some. */
public final class ScriptBoundaryTest {
    private static final char FIRST = ' ';
    private static final char LAST = '~';
    private static final String NO_PIECE = " \n|&;<>()'\"\\$";

    private static boolean isIn(String characters, char c) {
        return characters.indexOf(c) >= 0;
    }

    private static boolean goesOnInName(char c) {
        return c >= 'a' && c <= 'z' || c >= 'A' && c <= 'Z' || c >= '0' && c <= '9' || c == '_';
    }

    /** THE SCRIPT has at most 240 characters .. */
    private static void atMost240Characters(Checks checks) {
        Shell shell = new Shell();
        checks.same("typing 240", Checks.type(shell, " ".repeat(232) + "echo '  "), true);
        checks.same("typing the 241st", shell.type('\''), false);
        checks.same("the 240 as a script", Checks.runTyped(shell), Checks.MALFORMED);
        checks.same("its end", shell.place(), 240);
        shell.wipe();
        checks.same("typing 239", Checks.type(shell, " ".repeat(231) + "echo '  "), true);
        checks.same("typing the 240th", shell.type('\''), true);
        checks.same("the 240 as a script", Checks.runTyped(shell), "0");
        checks.same("its output", Checks.output(shell), "  \n");
        checks.malformed("\n".repeat(239) + "(", 239);
        checks.malformed("a;".repeat(119) + "a(", 239);
        checks.malformed(">" + "a>".repeat(119) + ";", 239);
        checks.malformed("a|".repeat(120), 240);
        checks.tooMuch("\"" + "x".repeat(238) + "\"");
        checks.tooMuch("\"${a:-" + "x".repeat(232) + "}\"");
        checks.script("\"${a:-" + "x".repeat(40) + "}\"" + "$a".repeat(96), 127, "");
    }

    /** .. : 10 (LF) and 32 .. 126. */
    private static void theCharactersOfScripts(Checks checks) {
        for (int b = 1; b < 256; b++) {
            boolean taken = b == 10 || b >= 32 && b <= 126;
            Shell shell = new Shell();
            Checks.type(shell, "echo \"<\" '");
            checks.same("typing " + b, shell.type(b), taken);
            Checks.type(shell, b == '\'' ? "" : "'");
            checks.same("running with " + b, Checks.runTyped(shell), "0");
            checks.same("the output with " + b, Checks.output(shell), "< " + (taken && b != '\'' ? "" + (char) b : "") + "\n");
        }
    }

    /** TOKENS: && || | ; LF < > >> (each as long as can be) .. */
    private static void tokensAsLongAsCanBe(Checks checks) {
        checks.script("false||echo a", 0, "a\n");
        checks.script("true&&echo a", 0, "a\n");
        checks.script("echo a>f;echo b>>f;cat f", 0, "a\nb\n");
        checks.malformed("a|||b", 3);
        checks.malformed("a||||b", 3);
        checks.malformed("a&&&b", 3);
        checks.malformed("a&&&&b", 3);
        checks.malformed("a>>>b", 3);
        checks.malformed("a>>>>b", 3);
        checks.malformed("a<<b", 2);
        checks.malformed("a;;b", 2);
        checks.malformed("a| |b", 3);
        checks.malformed("a& &b", 1);
        checks.malformed("a> >b", 3);
        checks.script("echo a\n\n\necho b", 0, "a\nb\n");
    }

    /** .. and WORDS; between them blanks .. A word is a row, as long as can be, of PIECES .. */
    private static void wordsAsLongAsCanBe(Checks checks) {
        checks.script("  echo   a'b'\"c\"\\d$#e${x:-f}g    h  ", 0, "abcd0efg h\n");
        checks.script("echo a|cat;echo b&&echo c||echo d\necho e>f;cat<f", 0, "a\nb\nc\ne\n");
        checks.script("e\"ch\"'o' a", 0, "a\n");
    }

    /** COMMENTS: # where a token begins .. */
    private static void commentsWhereATokenBegins(Checks checks) {
        checks.script("#echo a", 0, "");
        checks.script("   #echo a", 0, "");
        checks.script("echo a #b", 0, "a\n");
        checks.script("echo a;#b", 0, "a\n");
        checks.script("echo a\n#b", 0, "a\n");
        checks.script("echo a|#b\ncat", 0, "a\n");
        checks.script("true&&#b\necho a", 0, "a\n");
        checks.script("false||#b\necho a", 0, "a\n");
        checks.script("echo a>f#b;echo f*", 0, "f#b\n");
        checks.script("echo a#b ''#c \\## $## a=#", 0, "a#b #c ## 0# a=#\n");
        checks.script("a=#b; echo $a", 0, "#b\n");
        checks.script("echo '#a' \"#b\" \\#c", 0, "#a #b #c\n");
        checks.malformed("a #b\n#c\n(", 8);
    }

    /** .. up to the LF (not with it) or the end. */
    private static void commentsUpToTheLfOrTheEnd(Checks checks) {
        checks.script("echo a #b\necho c", 0, "a\nc\n");
        checks.script("echo a #\necho c", 0, "a\nc\n");
        checks.script("echo a # ( ) ' \" \\ $ ${ & && | ; < > #\necho c", 0, "a\nc\n");
        checks.script("echo a #b\\\necho c", 0, "a\nc\n");
        checks.script("echo a #", 0, "a\n");
        checks.script("#", 0, "");
        checks.malformed("a > #b\nc", 6);
        checks.malformed("a > #b", 6);
        checks.malformed("a && #b", 7);
        checks.malformed("a #b\n&& c", 5);
    }

    /** PIECES: a character that is none of blank LF | & ; < > ( ) ' " \ $ .. */
    private static void plainPieces(Checks checks) {
        for (char c = FIRST; c <= LAST; c++) {
            if (!isIn(NO_PIECE, c)) {
                checks.script("echo x" + c + "y", 0, "x" + c + "y\n");
                checks.script("echo x" + c, 0, "x" + c + "\n");
                checks.script("echo " + c, 0, c == '#' ? "\n" : c + "\n");
            }
        }
        checks.script("echo x y", 0, "x y\n");
        checks.script("set x y; echo $#", 0, "2\n");
        checks.script("echo x\ny", 127, "x\n");
        checks.script("echo x;y", 127, "x\n");
        checks.script("echo x|wc", 0, "1 2\n");
        checks.script("echo x>y", 0, "");
        checks.script("echo x<y", 1, "");
        checks.malformed("echo x(y", 6);
        checks.malformed("echo x)y", 6);
        checks.malformed("echo x&y", 6);
        checks.malformed("(", 0);
        checks.malformed(")", 0);
    }

    /** .. a \ and a character but LF .. */
    private static void escapedCharacters(Checks checks) {
        for (char c = FIRST; c <= LAST; c++) {
            checks.script("set \\" + c + "; echo $# \"$1\"", 0, "1 " + c + "\n");
        }
        checks.malformed("echo \\\na", 6);
        checks.malformed("\\\n", 1);
        checks.malformed("echo a\\", 7);
        checks.malformed("\\\\\\", 3);
    }

    /** .. '..' with any characters but ' .. */
    private static void singleQuotes(Checks checks) {
        for (char c = FIRST; c <= LAST; c++) {
            if (c != '\'') {
                checks.script("set '" + c + "'; echo $# \"$1\"", 0, "1 " + c + "\n");
            }
        }
        checks.script("set '\n'; echo $# \"$1\"", 0, "1 \n\n");
        checks.script("set ''; echo $# \"$1\"", 0, "1 \n");
        checks.script("echo '\\'a'\"'", 0, "\\a\"\n");
        checks.malformed("'", 1);
        checks.malformed("'''", 3);
        checks.malformed("'\\''", 4);
        checks.malformed("'a\n\n", 4);
    }

    /** "..", inside which there are characters but " \ $ .. */
    private static void doubleQuotes(Checks checks) {
        for (char c = FIRST; c <= LAST; c++) {
            if (c != '"' && c != '\\') {
                checks.script("set \"" + c + "\"; echo $# \"$1\"", 0, "1 " + c + "\n");
            }
        }
        checks.script("set \"\n\"; echo $# \"$1\"", 0, "1 \n\n");
        checks.script("set \"\"; echo $# \"$1\"", 0, "1 \n");
        checks.malformed("\"", 1);
        checks.malformed("\"\"\"", 3);
        checks.malformed("\"'\"'", 4);
        checks.malformed("\"a\n\n", 4);
    }

    /** .. a \ and a character but LF (which stands for itself if it is $, " or \, otherwise the \ stays, too) .. */
    private static void escapedCharactersInQuotes(Checks checks) {
        for (char c = FIRST; c <= LAST; c++) {
            String due = isIn("$\"\\", c) ? "" + c : "\\" + c;
            checks.script("set \"\\" + c + "\"; echo $# \"$1\"", 0, "1 " + due + "\n");
        }
        checks.malformed("\"\\\n\"", 2);
        checks.malformed("\"\\", 2);
        checks.malformed("\"\\\"", 3);
        checks.malformed("\"\\\\\\\"", 5);
    }

    /** A PARAMETER: $NAME, $ and a digit 1 .. 9, $#, $? ..; or a $ that begins none of these (.. also in "..") .. */
    private static void whatBeginsAParameter(Checks checks) {
        for (char c = FIRST; c <= LAST; c++) {
            boolean given = goesOnInName(c) && c != '0';
            String due = given ? "" : c == '#' || c == '?' ? "0" : "$" + c;
            if (!isIn("\"\\${", c)) {
                checks.script("echo \"$" + c + "\"", 0, due + "\n");
            }
            if (!isIn(NO_PIECE, c) && c != '{') {
                checks.script("echo $" + c, 0, due + "\n");
            }
        }
        checks.script("echo \"$\n\" \"$\" $ $$ \"$$\" $\\a \"$\\a\" $'a' $\"a\"", 0, "$\n $ $ $$ $$ $a $\\a $a $a\n");
        checks.malformed("echo $(a)", 6);
        checks.malformed("echo \"$(a)\" $)", 13);
    }

    /** .. if no { is behind it .. */
    private static void noLoneDollarBeforeABrace(Checks checks) {
        checks.malformed("echo ${", 7);
        checks.malformed("echo ${ a}", 7);
        checks.malformed("echo \"${\"", 8);
        checks.malformed("echo \"${ a}\"", 8);
        checks.script("echo \\${a} '${' \"\\${\" $ {", 0, "${a} ${ ${ $ {\n");
    }

    /** .. so $0 is $ and 0, $10 is $1 and 0). */
    private static void zeroAndTwoDigits(Checks checks) {
        Shell shell = Checks.after("set a b c d e f g h i");
        checks.script(shell, "echo $0 \"$0\" $00 $01", 0, "$0 $0 $00 $01\n");
        checks.script(shell, "echo $10 \"$10\" $11 $99 $90 $123", 0, "a0 a0 a1 i9 i0 a23\n");
        checks.script(shell, "echo $1 $2 $3 $4 $5 $6 $7 $8 $9", 0, "a b c d e f g h i\n");
        checks.script(shell, "echo $#0 $?0 $## $?? $?#", 0, "90 00 9# 0? 0#\n");
    }

    /** A NAME is a letter or _, then letters, digits and _, as long as can be .. */
    private static void namesAsLongAsCanBe(Checks checks) {
        for (char c = FIRST; c <= LAST; c++) {
            if (!isIn("\"\\$", c)) {
                String due = goesOnInName(c) ? "" : "x" + c;
                checks.script("n=x; echo \"$n" + c + "\"", 0, due + "\n");
            }
            boolean begins = goesOnInName(c) && !(c >= '0' && c <= '9');
            if (begins) {
                checks.script(c + "=y; echo $" + c + " ${" + c + "}", 0, "y y\n");
            } else if (c != '}') {
                checks.malformed("${" + c + "}", 2);
            }
            if (goesOnInName(c)) {
                checks.script("n" + c + "=y; echo $n" + c + "- ${n" + c + "}", 0, "y- y\n");
            } else if (c != '}' && c != ':') {
                checks.malformed("${n" + c + "}", 3);
            }
        }
        checks.malformed("${}", 2);
        checks.malformed("${1}", 2);
        checks.malformed("${#}", 2);
        checks.malformed("${?}", 2);
        String longest = "n".repeat(230);
        checks.script("echo $" + longest, 0, "\n");
        checks.script("echo ${" + longest + "}", 0, "\n");
    }

    /** .. ${NAME}, ${NAME:-TEXT} .. */
    private static void bracesThatStayOpen(Checks checks) {
        String whole = "${ab:-x y}";
        for (int size = 2; size < whole.length(); size++) {
            checks.malformed(whole.substring(0, size), size);
            checks.malformed("\"" + whole.substring(0, size), size + 1);
        }
        checks.script("echo " + whole, 0, "x y\n");
        checks.malformed("${a:}", 4);
        checks.malformed("${a:x}", 4);
        checks.malformed("${a::-x}", 4);
        checks.malformed("${a-x}", 3);
        checks.malformed("${a\n}", 3);
        checks.malformed("${a:\n-}", 4);
    }

    /** .. a TEXT any characters but } LF ' " \ $. */
    private static void textsInBraces(Checks checks) {
        for (char c = FIRST; c <= LAST; c++) {
            if (isIn("'\"\\$", c)) {
                checks.malformed("${a:-" + c + "}", 5);
                checks.malformed("\"${a:-x" + c + "}\"", 7);
            } else if (c != '}') {
                checks.script("echo \"${a:-" + c + "}\"", 0, c + "\n");
                checks.script("echo ${a:-x" + c + "}", 0, c == ' ' ? "x\n" : "x" + c + "\n");
            }
        }
        checks.malformed("${a:-\n}", 5);
        checks.script("echo ${a:-}} \"${a:-}\"}", 0, "} }\n");
    }

    /** script = newlines, or newlines andor (sep andor) .. sep? .. newlines = any number of LF. */
    private static void scriptsOfNewlines(Checks checks) {
        for (int size : new int[] {0, 1, 2, 239, 240}) {
            Shell shell = Checks.after("exit 3");
            checks.leaves(shell, "\n".repeat(size), 3, Checks.state("", "", "", 3, ""));
        }
        checks.script("\n".repeat(234) + "echo a", 0, "a\n");
        checks.script("echo a" + "\n".repeat(234), 0, "a\n");
        checks.script(" \n # c\n \n", 0, "");
    }

    /** .. sep = ; newlines, or LF newlines .. */
    private static void separators(Checks checks) {
        checks.script("echo a;echo b;\n\n\necho c\necho d\n\n\necho e", 0, "a\nb\nc\nd\ne\n");
        checks.script("echo a;", 0, "a\n");
        checks.script("echo a;\n\n", 0, "a\n");
        checks.script("echo a\n", 0, "a\n");
        checks.malformed(";", 0);
        checks.malformed("\n\n;", 2);
        checks.malformed("echo a;;", 7);
        checks.malformed("echo a; ;", 8);
        checks.malformed("echo a\n;", 7);
        checks.malformed("echo a;\n\n;", 9);
    }

    /** andor = pipeline (&& or ||, newlines, pipeline) .. */
    private static void andAndOrBetweenPipelines(Checks checks) {
        checks.script("true&&\n\n\ntrue||\n\n\nfalse", 0, "");
        for (String operator : new String[] {"&&", "||"}) {
            checks.malformed(operator, 0);
            checks.malformed(operator + "a", 0);
            checks.malformed("\n" + operator + "a", 1);
            checks.malformed("a" + operator, 3);
            checks.malformed("a" + operator + "\n\n", 5);
            checks.malformed("a\n" + operator + "b", 2);
            checks.malformed("a;" + operator + "b", 2);
            checks.malformed("a" + operator + ";b", 3);
            checks.malformed("a" + operator + "\n;b", 4);
            checks.malformed("a" + operator + "|b", 3);
            checks.malformed("a" + operator + " &&b", 4);
            checks.malformed("a" + operator + " ||b", 4);
        }
    }

    /** pipeline = command ( | newlines command) .. */
    private static void pipesBetweenCommands(Checks checks) {
        checks.script("echo a|\n\n\ncat|\ncat", 0, "a\n");
        checks.malformed("|", 0);
        checks.malformed("|a", 0);
        checks.malformed("a|", 2);
        checks.malformed("a|\n\n", 4);
        checks.malformed("a\n|b", 2);
        checks.malformed("a;|b", 2);
        checks.malformed("a|;b", 2);
        checks.malformed("a|\n;b", 3);
        checks.malformed("a| |b", 3);
        checks.malformed("a|&&b", 2);
        checks.malformed("a| ||b", 3);
        checks.malformed("a&&b|", 5);
    }

    /** command = one or more of: assignment (before the first word that is none), word, redirection. */
    private static void commandsOfOnePart(Checks checks) {
        checks.leaves(new Shell(), "a=1", 0, Checks.state(" a=[1]", "", "", 0, ""));
        checks.leaves(new Shell(), ">f", 0, Checks.state("", "", " f=[]", 0, ""));
        checks.leaves(new Shell(), "true", 0, Checks.state("", "", "", 0, ""));
        checks.leaves(new Shell(), "a=1|>f|b=2&&c=3||>g", 0, Checks.state(" c=[3]", "", " f=[]", 0, ""));
        checks.leaves(new Shell(), ">f a=1 >g b=2 >h", 0, Checks.state(" a=[1] b=[2]", "", " f=[] g=[] h=[]", 0, ""));
        checks.leaves(new Shell(), "a=1 >f echo b=2 >g c=3", 0, Checks.state("", "", " f=[] g=[b=2 c=3\n]", 0, ""));
        checks.leaves(new Shell(), "$none a=1", 127, Checks.state("", "", "", 127, ""));
        checks.leaves(new Shell(), "'' a=1", 127, Checks.state("", "", "", 127, ""));
    }

    /** redirection = < or > or >>, and a word. */
    private static void redirectionsWantAWord(Checks checks) {
        for (String operator : new String[] {"<", ">", ">>"}) {
            int size = operator.length();
            checks.malformed(operator, size);
            checks.malformed("a" + operator, 1 + size);
            checks.malformed("a" + operator + "  ", 3 + size);
            checks.malformed("a" + operator + "\nb", 1 + size);
            for (String next : new String[] {"<", ">", ">>", "|", "||", "&&", ";", "\n", "&", "(", ")"}) {
                checks.malformed("a" + operator + " " + next + " b", 2 + size);
            }
        }
        checks.script("echo a>f;echo b>>f;cat<f", 0, "a\nb\n");
        checks.script("echo a > f; echo b >> f; cat < f", 0, "a\nb\n");
    }

    /** assignment = a word that begins with a NAME and =, as written (no quotes, \ or parameter in these) .. */
    private static void whatIsAnAssignment(Checks checks) {
        checks.leaves(new Shell(), "a=1 _=2 A9_z=3", 0, Checks.state(" A9_z=[3] _=[2] a=[1]", "", "", 0, ""));
        for (String word : new String[] {"=1", "1=1", "9a=1", "a-=1", "a b=1", "'a'=1", "\"a\"=1", "a'='1", "\\a=1", "a\\=1",
            "$a=1", "a$b=1", "a${b}=1", "''a=1", "a''=1", "a", "a+=1", "a*=1"}) {
            checks.leaves(new Shell(), word, 127, Checks.state("", "", "", 127, ""));
        }
        checks.leaves(new Shell(), "> a=1", 0, Checks.state("", "", " a=1=[]", 0, ""));
    }

    /** .. its value is the rest (perhaps nothing). */
    private static void valuesAsTheRest(Checks checks) {
        checks.leaves(new Shell(), "a=", 0, Checks.state(" a=[]", "", "", 0, ""));
        checks.leaves(new Shell(), "a= b=", 0, Checks.state(" a=[] b=[]", "", "", 0, ""));
        checks.leaves(new Shell(), "a==", 0, Checks.state(" a=[=]", "", "", 0, ""));
        checks.leaves(new Shell(), "a=b=c", 0, Checks.state(" a=[b=c]", "", "", 0, ""));
        checks.leaves(new Shell(), "a=#", 0, Checks.state(" a=[#]", "", "", 0, ""));
        checks.leaves(new Shell(), "a='' b=\"\" c=' '\\ \"$#\"", 0, Checks.state(" a=[] b=[] c=[  0]", "", "", 0, ""));
        checks.leaves(new Shell(), "a= true", 0, Checks.state("", "", "", 0, ""));
    }

    /** The first character with which no script can go on .. makes the script MALFORMED, ahead of running anything .. */
    private static void malformedAheadOfRunning(Checks checks) {
        checks.malformed("echo b; a=2; set q; rm f; > g; true; (", 37);
        checks.malformed("exit 0; (", 8);
        checks.malformed("true || (", 8);
        checks.malformed("false && echo '", 15);
        checks.malformed("abcdefg=1; (", 11);
        checks.malformed("a|a|a|a|a|a|a; )", 15);
        checks.malformed("( )", 0);
        checks.malformed("a ) (", 2);
        checks.malformed("a ;; b || '", 3);
    }

    /** .. at its place (that of a whole operator, or of a lone &, where it begins; the script's length for its end). */
    private static void placesOfOperatorsAndOfTheEnd(Checks checks) {
        checks.malformed("a; &&", 3);
        checks.malformed("a; ||", 3);
        checks.malformed("a > >>b", 4);
        checks.malformed("a < >>b", 4);
        checks.malformed("&", 0);
        checks.malformed("a&", 1);
        checks.malformed("a &b", 2);
        checks.malformed("a & &", 2);
        checks.malformed("a &|", 2);
        checks.malformed("a &;", 2);
        checks.malformed("a &\n&", 2);
        checks.malformed("a && &", 5);
        checks.malformed("a |&", 3);
        checks.malformed("a >&1", 3);
        String most = "a".repeat(239);
        checks.malformed(most + "&", 239);
        checks.malformed(most + ")", 239);
        checks.malformed(most + "|", 240);
        checks.malformed(most + ">", 240);
        checks.malformed(most + "\\", 240);
        checks.malformed("'" + most, 240);
        checks.malformed("\"" + most, 240);
        checks.malformed("${" + most.substring(1), 240);
    }

    public static void main(String[] args) {
        Checks checks = new Checks("script boundaries");
        atMost240Characters(checks);
        theCharactersOfScripts(checks);
        tokensAsLongAsCanBe(checks);
        wordsAsLongAsCanBe(checks);
        commentsWhereATokenBegins(checks);
        commentsUpToTheLfOrTheEnd(checks);
        plainPieces(checks);
        escapedCharacters(checks);
        singleQuotes(checks);
        doubleQuotes(checks);
        escapedCharactersInQuotes(checks);
        whatBeginsAParameter(checks);
        noLoneDollarBeforeABrace(checks);
        zeroAndTwoDigits(checks);
        namesAsLongAsCanBe(checks);
        bracesThatStayOpen(checks);
        textsInBraces(checks);
        scriptsOfNewlines(checks);
        separators(checks);
        andAndOrBetweenPipelines(checks);
        pipesBetweenCommands(checks);
        commandsOfOnePart(checks);
        redirectionsWantAWord(checks);
        whatIsAnAssignment(checks);
        valuesAsTheRest(checks);
        malformedAheadOfRunning(checks);
        placesOfOperatorsAndOfTheEnd(checks);
        checks.end();
    }
}
