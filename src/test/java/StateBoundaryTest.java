/** The boundary cases of VARIABLES, POSITIONS and FILES in the document's Terms: a test for each limit. */
public final class StateBoundaryTest {
    private static final String FORTY = "0123456789abcdefghij0123456789ABCDEFGHIJ";

    /** VARIABLES, at most 8 .. */
    private static void eightVariables(Checks checks) {
        Shell shell = Checks.after("h=8 g=7 f=6 e=5 d=4 c=3 b=2");
        checks.leaves(shell, "a=1", 0, Checks.state(" a=[1] b=[2] c=[3] d=[4] e=[5] f=[6] g=[7] h=[8]", "", "", 0, ""));
        checks.tooMuch(shell, "i=9");
        checks.tooMuch(shell, "A=9");
        checks.tooMuch(shell, "i=");
        checks.tooMuch(shell, "a=0 i=9");
        checks.leaves(shell, "h=0", 0, Checks.state(" a=[1] b=[2] c=[3] d=[4] e=[5] f=[6] g=[7] h=[0]", "", "", 0, ""));
        checks.leaves(shell, "unset d; dd=9", 0,
            Checks.state(" a=[1] b=[2] c=[3] dd=[9] e=[5] f=[6] g=[7] h=[0]", "", "", 0, ""));
        checks.tooMuch(shell, "d=9");
        checks.leaves(shell, "unset a b c dd e f g h; z=1", 0, Checks.state(" z=[1]", "", "", 0, ""));
    }

    /** .. have NAMES of at most 6 characters .. */
    private static void namesOfSix(Checks checks) {
        checks.leaves(new Shell(), "a=1", 0, Checks.state(" a=[1]", "", "", 0, ""));
        checks.leaves(new Shell(), "abcde6=1; echo $abcde6 ${abcde6}7 $abcde67", 0,
            Checks.state(" abcde6=[1]", "", "", 0, "1 17\n"));
        checks.tooMuch("abcdef7=1");
        checks.tooMuch("abcdef7=");
        checks.tooMuch("a" + "b".repeat(200) + "=");
        Shell shell = Checks.after("abcdef=1 abcdeg=2 abcde=3");
        checks.leaves(shell, "unset abcdef7; echo $abcdef7", 0,
            Checks.state(" abcde=[3] abcdef=[1] abcdeg=[2]", "", "", 0, "\n"));
    }

    /** .. and VALUES of at most 40 .. */
    private static void valuesOfForty(Checks checks) {
        Shell shell = new Shell();
        checks.leaves(shell, "a=" + FORTY, 0, Checks.state(" a=[" + FORTY + "]", "", "", 0, ""));
        checks.tooMuch(shell, "a=" + FORTY + "x");
        checks.tooMuch(shell, "a=$a'x'");
        checks.tooMuch(shell, "b=x$a");
        checks.tooMuch(shell, "b=$a\" \"");
        checks.tooMuch(shell, "b=${b:-" + FORTY + "x}");
        checks.leaves(shell, "b=${b:-" + FORTY + "}$b", 0,
            Checks.state(" a=[" + FORTY + "] b=[" + FORTY + "]", "", "", 0, ""));
        checks.leaves(shell, "a=; b=$a$a", 0, Checks.state(" a=[] b=[]", "", "", 0, ""));
    }

    /** .. POSITIONS 1 .. have at most 9 values. */
    private static void ninePositions(Checks checks) {
        Shell shell = new Shell();
        checks.leaves(shell, "set a b c d e f g h i; echo $#$9", 0,
            Checks.state("", " [a] [b] [c] [d] [e] [f] [g] [h] [i]", "", 0, "9i\n"));
        checks.tooMuch(shell, "set 1 2 3 4 5 6 7 8 9 10");
        checks.tooMuch(shell, "set $1 $2 $3 $4 $5 $6 $7 $8 $9 ''");
        checks.tooMuch(shell, "set '' '' '' '' '' '' '' '' '' ''");
        checks.leaves(shell, "set '' " + FORTY, 0, Checks.state("", " [] [" + FORTY + "]", "", 0, ""));
        checks.tooMuch(shell, "set x$2");
        checks.leaves(shell, "set", 0, Checks.state("", "", "", 0, ""));
    }

    /** FILES, at most 8 .. */
    private static void eightFiles(Checks checks) {
        Shell shell = Checks.after("echo x>h;>g;>f;>e;>d;>c;>b");
        checks.leaves(shell, ">a", 0, Checks.state("", "", " a=[] b=[] c=[] d=[] e=[] f=[] g=[] h=[x\n]", 0, ""));
        checks.tooMuch(shell, ">i");
        checks.tooMuch(shell, "echo x>>A");
        checks.tooMuch(shell, "true >a >i");
        checks.leaves(shell, ">h; echo y>>a", 0, Checks.state("", "", " a=[y\n] b=[] c=[] d=[] e=[] f=[] g=[] h=[]", 0, ""));
        checks.leaves(shell, "cat <i", 1, Checks.state("", "", " a=[y\n] b=[] c=[] d=[] e=[] f=[] g=[] h=[]", 1, ""));
        checks.leaves(shell, "rm d; echo z>dd", 0,
            Checks.state("", "", " a=[y\n] b=[] c=[] dd=[z\n] e=[] f=[] g=[] h=[]", 0, ""));
        checks.tooMuch(shell, ">d");
        checks.leaves(shell, "rm *; >z", 0, Checks.state("", "", " z=[]", 0, ""));
    }

    /** .. have names of 1 to 8 characters .. */
    private static void fileNamesOfOneToEight(Checks checks) {
        for (String operator : new String[] {">", ">>"}) {
            checks.leaves(new Shell(), operator + "''", 1, Checks.state("", "", "", 1, ""));
            checks.leaves(new Shell(), operator + "$none", 1, Checks.state("", "", "", 1, ""));
            checks.leaves(new Shell(), operator + "1", 0, Checks.state("", "", " 1=[]", 0, ""));
            checks.leaves(new Shell(), operator + "12345678", 0, Checks.state("", "", " 12345678=[]", 0, ""));
            checks.tooMuch(operator + "123456789");
            checks.tooMuch(operator + "12345678' '");
            checks.tooMuch(operator + FORTY);
            checks.tooMuch(operator + FORTY + "x");
        }
        checks.leaves(new Shell(), "<''", 1, Checks.state("", "", "", 1, ""));
        checks.leaves(new Shell(), "<12345678", 1, Checks.state("", "", "", 1, ""));
        checks.tooMuch("<123456789");
        checks.tooMuch("<" + FORTY + "x");
        checks.leaves(new Shell(), "> ' \n*?\\\"$'; cat < ' \n*?\\\"$'", 0, Checks.state("", "", "  \n*?\\\"$=[]", 0, ""));
    }

    /** .. and at most 80 characters. */
    private static void filesOfEighty(Checks checks) {
        String line = FORTY.substring(1);
        Shell shell = Checks.after("a=" + line + "; echo $a $a | tr '\n' . > f");
        String eighty = line + " " + line + ".";
        String variable = " a=[" + line + "]";
        checks.same("80 at once", Checks.state(shell), Checks.state(variable, "", " f=[" + eighty + "]", 0, ""));
        checks.tooMuch(shell, "echo $a $a. > f");
        checks.tooMuch(shell, "echo >> f");
        checks.tooMuch(shell, "echo > g; cat f g > h");
        checks.leaves(shell, "true >> f", 0, Checks.state(variable, "", " f=[" + eighty + "]", 0, ""));
        checks.leaves(shell, "cat < f > g; rm f", 0, Checks.state(variable, "", " g=[" + eighty + "]", 0, ""));
        checks.leaves(shell, "echo $a > g; echo $a >> g", 0,
            Checks.state(variable, "", " g=[" + line + "\n" + line + "\n]", 0, ""));
        checks.tooMuch(shell, "echo >> g");
        checks.leaves(shell, "> g", 0, Checks.state(variable, "", " g=[]", 0, ""));
    }

    public static void main(String[] args) {
        Checks checks = new Checks("state boundaries");
        eightVariables(checks);
        namesOfSix(checks);
        valuesOfForty(checks);
        ninePositions(checks);
        eightFiles(checks);
        fileNamesOfOneToEight(checks);
        filesOfEighty(checks);
        checks.end();
    }
}
