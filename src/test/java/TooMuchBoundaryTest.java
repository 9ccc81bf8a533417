/** The boundary cases of TOO MUCH in the document's Terms: for each limit the last that is taken and the first that is not. */
public final class TooMuchBoundaryTest {
    private static final String FORTY = "0123456789abcdefghij0123456789ABCDEFGHIJ";
    private static final String FORTY_ONE = FORTY + "x";
    private static final String LINE = FORTY.substring(1);
    // Makes $l a line of 39 and the file f two of these, each with its LF.
    private static final String EIGHTY_IN_F = "l=" + LINE + "; echo $l > f; echo $l >> f";
    private static final String EIGHTY = LINE + "\n" + LINE + "\n";

    /** .. looked at when it is run (of what is left out never) .. */
    private static void whatIsLeftOut(Checks checks) {
        String[] muches = {"echo 1 2 3 4 5 6 7 8 9 a b c d e f g", "a|a|a|a|a|a|a", "echo " + FORTY_ONE, "a=" + FORTY_ONE,
            "abcdefg=", "> 123456789", "< 123456789", "set 1 2 3 4 5 6 7 8 9 10"};
        for (String much : muches) {
            checks.tooMuch(much);
            checks.tooMuch("true && " + much);
            checks.tooMuch("false || " + much);
            checks.tooMuch("false; " + much);
            checks.tooMuch("echo x > f; " + much + "; exit 3");
            checks.leaves(new Shell(), "false && " + much, 1, Checks.state("", "", "", 1, ""));
            checks.leaves(new Shell(), "true || " + much, 0, Checks.state("", "", "", 0, ""));
            checks.leaves(new Shell(), "exit 3; " + much, 3, Checks.state("", "", "", 3, ""));
            checks.leaves(new Shell(), "exit 0 && " + much, 0, Checks.state("", "", "", 0, ""));
        }
    }

    /** .. more than 16 fields .. */
    private static void sixteenFields(Checks checks) {
        String fifteen = "1 2 3 4 5 6 7 8 9 a b c d e f";
        checks.leaves(new Shell(), "echo " + fifteen, 0, Checks.state("", "", "", 0, fifteen + "\n"));
        checks.tooMuch("echo " + fifteen + " g");
        checks.tooMuch("echo " + fifteen + " ''");
        checks.tooMuch("nope " + fifteen + " g");
        checks.tooMuch("true " + fifteen + " g < none");
        checks.tooMuch("true | true " + fifteen + " g");
        checks.leaves(new Shell(), "a=1 b=2 echo " + fifteen + " $none > x", 0,
            Checks.state("", "", " x=[" + fifteen + "\n]", 0, ""));
        Shell shell = Checks.after("a='1 2 3 4 5' b='i j k l m n o'");
        checks.script(shell, "echo $a $a $a", 0, "1 2 3 4 5 1 2 3 4 5 1 2 3 4 5\n");
        checks.tooMuch(shell, "echo $a $a $a 6");
        checks.tooMuch(shell, "echo 0 $a $a $a");
        checks.tooMuch(shell, "$b $a $a");
        checks.script(shell, "echo \"$b\" $b $b", 0, "i j k l m n o i j k l m n o i j k l m n o\n");
        checks.tooMuch(shell, "echo \"$b\" '' $b $b");
    }

    /** .. (of patterns, too) .. */
    private static void sixteenFieldsOfPatterns(Checks checks) {
        Shell shell = Checks.after(">a;>b;>c;>d;>e");
        checks.script(shell, "echo * * *", 0, "a b c d e a b c d e a b c d e\n");
        checks.tooMuch(shell, "echo * * * ?");
        checks.tooMuch(shell, "echo * * * x");
        checks.tooMuch(shell, "echo x * * *");
        checks.script(shell, "echo * * x* y* z* '*' '?'", 0, "a b c d e a b c d e x* y* z* * ?\n");
        checks.tooMuch(shell, "echo * * x* y* z* '*' '?' x");
        shell = Checks.after(">a;>b;>c;>d;>e;>f;>g;>h");
        checks.script(shell, "echo * [a-c]* 1 2 3 4 5 6", 0, "a b c d e f g h [a-c]* 1 2 3 4 5 6\n");
        checks.tooMuch(shell, "echo * *");
        checks.script(shell, "* a b c d e f g", 127, "");
        checks.script(shell, "* *", 127, "");
        checks.tooMuch(shell, "* * *");
    }

    /** .. or 6 commands in a pipeline .. */
    private static void sixCommands(Checks checks) {
        checks.script("echo a|cat|cat|cat|cat|cat", 0, "a\n");
        checks.tooMuch("echo a|cat|cat|cat|cat|cat|cat");
        checks.tooMuch("a=1|>f|rm f|b=|true|false|exit 3");
        checks.tooMuch("echo x > f; a=1; exit 1|exit 1|exit 1|exit 1|exit 1|exit 1|exit 1");
        checks.tooMuch("true|true|true|true|true|true|true|true");
        checks.script("true|true|true|true|true|true;true|true|true|true|true|false||echo a|cat|cat|cat|cat|cat", 0, "a\n");
    }

    /** .. a field (ahead of being a pattern) .. too long (fields: 40 .. */
    private static void fieldsOfForty(Checks checks) {
        checks.script("echo " + FORTY, 0, FORTY + "\n");
        checks.tooMuch("echo " + FORTY_ONE);
        checks.tooMuch("echo '" + FORTY_ONE + "'");
        checks.tooMuch("echo \"" + FORTY_ONE + "\"");
        checks.tooMuch("echo ${none:-" + FORTY_ONE + "}");
        checks.tooMuch(FORTY_ONE);
        checks.script(FORTY, 127, "");
        checks.tooMuch("true " + FORTY_ONE);
        Shell shell = Checks.after("a=" + FORTY + " b='" + LINE + " '");
        checks.script(shell, "echo $a", 0, FORTY + "\n");
        checks.tooMuch(shell, "echo x$a");
        checks.tooMuch(shell, "echo $a\\x");
        checks.tooMuch(shell, "echo \"$a$#\"");
        checks.script(shell, "echo $b$b\"$b\"", 0, LINE + " " + LINE + " " + LINE + " \n");
        checks.script(shell, "echo $b${a}", 0, LINE + " " + FORTY + "\n");
        checks.tooMuch(shell, "echo $b${a}x");
        checks.tooMuch(shell, "echo $b\"$b$#\"");
    }

    /** .. ahead of being a pattern .. */
    private static void patternsOfForty(Checks checks) {
        Shell shell = Checks.after("> a");
        checks.script(shell, "echo " + "*".repeat(40), 0, "a\n");
        checks.tooMuch(shell, "echo " + "*".repeat(41));
        checks.script(shell, "echo a" + "*".repeat(39), 0, "a\n");
        checks.tooMuch(shell, "echo a" + "*".repeat(40));
        checks.script(shell, "echo " + "?".repeat(40), 0, "?".repeat(40) + "\n");
        checks.tooMuch(shell, "echo " + "?".repeat(41));
    }

    /** .. value (also of an assignment of which nothing comes) .. too long .. */
    private static void valuesOfForty(Checks checks) {
        checks.leaves(new Shell(), "a=" + FORTY, 0, Checks.state(" a=[" + FORTY + "]", "", "", 0, ""));
        checks.tooMuch("a=" + FORTY_ONE);
        checks.leaves(new Shell(), "a=" + FORTY + " true", 0, Checks.state("", "", "", 0, ""));
        checks.tooMuch("a=" + FORTY_ONE + " true");
        checks.tooMuch("a=" + FORTY_ONE + " nope");
        checks.tooMuch("a=" + FORTY_ONE + " | true");
        checks.tooMuch("true | a=" + FORTY_ONE + " cat");
        checks.tooMuch("a=" + FORTY_ONE + " $none");
        checks.leaves(new Shell(), "a=" + FORTY_ONE + " true < none", 1, Checks.state("", "", "", 1, ""));
        Shell shell = Checks.after("a=" + FORTY);
        checks.tooMuch(shell, "b=$a$a true");
        checks.tooMuch(shell, "b=$a$#");
        checks.tooMuch(shell, "b=$a\\  true");
        checks.leaves(shell, "a=1 b=2 true; a=; b=$a", 0, Checks.state(" a=[] b=[]", "", "", 0, ""));
    }

    /** .. or name too long (.. a variable's name when it is assigned) .. */
    private static void namesOfSix(Checks checks) {
        checks.leaves(new Shell(), "abcdef=1", 0, Checks.state(" abcdef=[1]", "", "", 0, ""));
        checks.tooMuch("abcdefg=1");
        checks.tooMuch("a=1 abcdefg=1");
        checks.tooMuch("abcdefg=1 $none");
        checks.tooMuch("abcdefg=1 | true");
        checks.leaves(new Shell(), "abcdefg=1 true", 0, Checks.state("", "", "", 0, ""));
        checks.leaves(new Shell(), "abcdefg=1 nope", 127, Checks.state("", "", "", 127, ""));
        checks.leaves(new Shell(), "echo $abcdefg ${abcdefg} ${abcdefg:-x}; unset abcdefg", 0, Checks.state("", "", "", 0, "x\n"));
    }

    /** .. more than 240 characters put out by a command (wherever these go) .. */
    private static void putOutByACommand(Checks checks) {
        Shell shell = Checks.after(EIGHTY_IN_F, "echo > g");
        checks.script(shell, "cat f f f", 0, EIGHTY.repeat(3));
        checks.tooMuch(shell, "cat f f f g");
        checks.script(shell, "cat f f f | true", 0, "");
        checks.tooMuch(shell, "cat f f f g | true");
        checks.tooMuch(shell, "cat f f f g > h");
        checks.tooMuch(shell, "cat f f f g >> h | cat");
        checks.script(shell, "cat f f f | cat | sort | grep '' | wc", 0, "6 240\n");
        checks.script(shell, "cat f f f | tr '\n' x | cat | wc", 0, "0 240\n");
        checks.tooMuch(shell, "cat f f f | tr '\n' x | rev | true");
        checks.tooMuch(shell, "cat f f f | tr '\n' x | sort | true");
        checks.tooMuch(shell, "cat f f f | tr '\n' x | uniq | true");
        checks.tooMuch(shell, "cat f f f | tr '\n' x | grep x | true");
        checks.tooMuch(shell, "cat f f f | tr '\n' x | head 1 | true");
        checks.script(shell, "cat f f f | tr '\n' x | head 0", 0, "");
        checks.script(shell, "cat f f f | tr '\n' x | grep y", 1, "");
        checks.script(shell, "echo $l $l $l $l $l $l | wc", 0, "1 240\n");
        checks.tooMuch(shell, "echo $l $l $l $l $l $l. | true");
    }

    /** .. or in OUTPUT .. */
    private static void putOutInAll(Checks checks) {
        Shell shell = Checks.after(EIGHTY_IN_F, "echo > g");
        checks.script(shell, "cat f; cat f && cat f", 0, EIGHTY.repeat(3));
        checks.tooMuch(shell, "cat f; cat f && cat f; echo");
        checks.tooMuch(shell, "cat g; cat f; cat f; cat f");
        checks.script(shell, "cat f f f; true; echo x > h; cat f f f | wc > h", 0, EIGHTY.repeat(3));
        checks.script(shell, "cat f f f | true; cat f f f | true; cat f f f", 0, EIGHTY.repeat(3));
        checks.script(shell, "cat f f f", 0, EIGHTY.repeat(3));
        checks.script(shell, "cat f f f; exit 4; echo", 4, EIGHTY.repeat(3));
    }

    /** .. more variables .. than said. */
    private static void moreVariables(Checks checks) {
        Shell shell = Checks.after("a=1 b=2 c=3 d=4 e=5 f=6 g=7");
        checks.tooMuch(shell, "h=8 i=9");
        checks.leaves(shell, "h=8", 0, Checks.state(" a=[1] b=[2] c=[3] d=[4] e=[5] f=[6] g=[7] h=[8]", "", "", 0, ""));
        checks.tooMuch(shell, "i=9");
        checks.tooMuch(shell, "i=9 | true");
        checks.tooMuch(shell, "true | i=9");
        checks.tooMuch(shell, "unset a | i=9");
        checks.leaves(shell, "i=9 true; a=0 h=0", 0,
            Checks.state(" a=[0] b=[2] c=[3] d=[4] e=[5] f=[6] g=[7] h=[0]", "", "", 0, ""));
        checks.leaves(shell, "unset a; i=9", 0,
            Checks.state(" b=[2] c=[3] d=[4] e=[5] f=[6] g=[7] h=[0] i=[9]", "", "", 0, ""));
    }

    /** .. or files .. than said. */
    private static void moreFiles(Checks checks) {
        Shell shell = Checks.after(">a;>b;>c;>d;>e;>f;>g");
        checks.tooMuch(shell, ">h >i");
        checks.leaves(shell, ">h", 0, Checks.state("", "", " a=[] b=[] c=[] d=[] e=[] f=[] g=[] h=[]", 0, ""));
        checks.tooMuch(shell, ">i");
        checks.tooMuch(shell, ">>i");
        checks.tooMuch(shell, "echo x >i | true");
        checks.tooMuch(shell, "rm a >i");
        checks.tooMuch(shell, "true >i <none");
        checks.leaves(shell, "true <none >i || rm a | echo x >i", 0,
            Checks.state("", "", " b=[] c=[] d=[] e=[] f=[] g=[] h=[] i=[x\n]", 0, ""));
    }

    /** .. (or characters in them) .. */
    private static void moreCharactersInAFile(Checks checks) {
        Shell shell = Checks.after(EIGHTY_IN_F);
        String variable = " l=[" + LINE + "]";
        checks.tooMuch(shell, "echo >> f");
        checks.tooMuch(shell, "cat < f >> f");
        checks.tooMuch(shell, "rm f; echo $l $l. > g");
        checks.tooMuch(shell, "echo $l > g; echo $l. >> g");
        checks.leaves(shell, "echo $l $l > f", 0, Checks.state(variable, "", " f=[" + LINE + " " + LINE + "\n]", 0, ""));
        checks.tooMuch(shell, "echo >> f | true");
        checks.leaves(shell, "true >> f; echo >> f < none", 1, Checks.state(variable, "", " f=[" + LINE + " " + LINE + "\n]", 1, ""));
    }

    /** .. or positions than said. */
    private static void morePositions(Checks checks) {
        Shell shell = Checks.after("set 1 2 3 4 5 6 7 8 9");
        checks.tooMuch(shell, "set 1 2 3 4 5 6 7 8 9 0");
        checks.tooMuch(shell, "set a; set 1 2 3 4 5 6 7 8 9 0 a b c d e");
        checks.tooMuch(shell, "set 1 2 3 4 5 6 7 8 9 '' | true");
        checks.leaves(shell, "set 1 2 3 4 5 6 7 8 9 0 < none", 1,
            Checks.state("", " [1] [2] [3] [4] [5] [6] [7] [8] [9]", "", 1, ""));
        checks.leaves(shell, "set a b c d e f g h $none i", 0, Checks.state("", " [a] [b] [c] [d] [e] [f] [g] [h] [i]", "", 0, ""));
    }

    /** Also a redirection's name of more than 8 (of <, too, ahead of status 1). */
    private static void namesOfRedirections(Checks checks) {
        for (String operator : new String[] {"<", ">", ">>"}) {
            checks.tooMuch("echo a " + operator + " 123456789");
            checks.tooMuch(operator + " 12345678' '");
            checks.tooMuch("true | cat " + operator + " 123456789 | true");
            checks.tooMuch("echo x > f; cat < f " + operator + " ${none:-123456789}");
            checks.leaves(new Shell(), "> f < none " + operator + " 123456789", 1, Checks.state("", "", " f=[]", 1, ""));
        }
        checks.leaves(new Shell(), "echo a > 12345678", 0, Checks.state("", "", " 12345678=[a\n]", 0, ""));
        checks.leaves(new Shell(), "echo a < 12345678", 1, Checks.state("", "", "", 1, ""));
        checks.leaves(new Shell(), "cat 123456789; rm 123456789; test -e 123456789", 1, Checks.state("", "", "", 1, ""));
    }

    public static void main(String[] args) {
        Checks checks = new Checks("too much boundaries");
        whatIsLeftOut(checks);
        sixteenFields(checks);
        sixteenFieldsOfPatterns(checks);
        sixCommands(checks);
        fieldsOfForty(checks);
        patternsOfForty(checks);
        valuesOfForty(checks);
        namesOfSix(checks);
        putOutByACommand(checks);
        putOutInAll(checks);
        moreVariables(checks);
        moreFiles(checks);
        moreCharactersInAFile(checks);
        morePositions(checks);
        namesOfRedirections(checks);
        checks.end();
    }
}
