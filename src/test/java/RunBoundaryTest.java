/** The boundary cases of RUNNING in the document's Terms: a test for each sentence that names some. */
public final class RunBoundaryTest {
    /** .. each gets as INPUT what the one before has put out (the first: nothing); the last one's goes to the OUTPUT. */
    private static void inputsAndTheOutput(Checks checks) {
        checks.script("cat", 0, "");
        checks.script("wc; echo a; wc", 0, "0 0\na\n0 0\n");
        checks.script("echo a; cat", 0, "a\n");
        checks.script("echo a | cat; cat", 0, "a\n");
        checks.script("echo a | cat && wc || cat", 0, "a\n0 0\n");
        checks.script("echo a > f; cat < f; wc; cat < f | wc < f; wc | cat", 0, "a\n0 0\n1 2\n0 0\n");
        checks.script("echo a && cat | wc", 0, "a\n0 0\n");
        checks.script("wc | wc | wc", 0, "1 4\n");
        checks.script("echo a | echo b | wc", 0, "1 2\n");
        checks.script("echo a | true | wc", 0, "0 0\n");
        checks.script("echo a | b=1 | wc", 0, "0 0\n");
        checks.script("echo a | nope | wc; echo a | wc x | wc", 0, "0 0\n0 0\n");
        checks.script("echo a | cat; echo b | true", 0, "a\n");
    }

    /** In a pipeline of one command, variables and positions change for good .. */
    private static void oneCommandChangesForGood(Checks checks) {
        Shell shell = Checks.after("a=1 b=2; set p q");
        checks.leaves(shell, "a=3; unset b; set r; c=4 && d=5 || e=6", 0,
            Checks.state(" a=[3] c=[4] d=[5]", " [r]", "", 0, ""));
        checks.leaves(shell, "false || set s; a=$1 > f", 0, Checks.state(" a=[s] c=[4] d=[5]", " [s]", " f=[]", 0, ""));
    }

    /** .. of more, each command has its own, which are gone behind it (files change for good, at once). */
    private static void commandsOfMoreHaveTheirOwn(Checks checks) {
        Shell shell = Checks.after("a=1 b=2; set p q");
        String before = " a=[1] b=[2]";
        checks.leaves(shell, "a=3 | echo $a", 0, Checks.state(before, " [p] [q]", "", 0, "1\n"));
        checks.leaves(shell, "echo x | a=3", 0, Checks.state(before, " [p] [q]", "", 0, ""));
        checks.leaves(shell, "unset a | echo $a | set | echo $# $1", 0, Checks.state(before, " [p] [q]", "", 0, "2 p\n"));
        checks.leaves(shell, "true | set r s t; true | unset a b", 0, Checks.state(before, " [p] [q]", "", 0, ""));
        checks.leaves(shell, "a=3 b=$a | true; c=4 | true", 0, Checks.state(before, " [p] [q]", "", 0, ""));
        checks.leaves(shell, "echo x > f | cat f | cat >> f | cat f", 0,
            Checks.state(before, " [p] [q]", " f=[x\nx\n]", 0, "x\nx\n"));
        checks.leaves(shell, "rm f | test -e f", 1, Checks.state(before, " [p] [q]", "", 1, ""));
        checks.leaves(shell, "> g | echo * | cat", 0, Checks.state(before, " [p] [q]", " g=[]", 0, "g\n"));
        checks.leaves(shell, "a=3", 0, Checks.state(" a=[3] b=[2]", " [p] [q]", " g=[]", 0, ""));
    }

    /** Its status is the last command's. */
    private static void statusOfAPipeline(Checks checks) {
        checks.script("false | nope | true", 0, "");
        checks.script("true | true | false", 1, "");
        checks.script("true | nope", 127, "");
        checks.script("false | a=1", 0, "");
        checks.script("true | cat < none", 1, "");
        checks.script("cat < none | true", 0, "");
    }

    /** a && b runs b if the status is 0, a || b if it is not, from left to right; the others are left out. */
    private static void andOrFromLeftToRight(Checks checks) {
        checks.script("true && echo a", 0, "a\n");
        checks.script("false && echo a", 1, "");
        checks.script("true || echo a", 0, "");
        checks.script("false || echo a", 0, "a\n");
        checks.script("wc x && echo a || echo b", 0, "b\n");
        checks.script("nope || echo $?", 0, "127\n");
        checks.script("true || echo a && echo b", 0, "b\n");
        checks.script("false && echo a || echo b", 0, "b\n");
        checks.script("false && echo a && echo b || echo c", 0, "c\n");
        checks.script("true || echo a || echo b && echo c", 0, "c\n");
        checks.script("true || echo a | cat | cat && echo b | cat", 0, "b\n");
        checks.script("false && echo a | cat || echo b", 0, "b\n");
        checks.script("false && echo a; echo b", 0, "b\n");
        checks.script("true || echo a\necho b", 0, "b\n");
        checks.leaves(new Shell(), "false && a=1; true || > f; exit 4 | exit 3 && set p", 3, Checks.state("", "", "", 3, ""));
    }

    /** A command: its words are expanded, then the redirections from left to right .., then the assignments. */
    private static void wordsThenRedirectionsThenAssignments(Checks checks) {
        checks.leaves(new Shell(), "echo * > f", 0, Checks.state("", "", " f=[*\n]", 0, ""));
        checks.leaves(new Shell(), "a=f > $a", 1, Checks.state("", "", "", 1, ""));
        checks.leaves(new Shell(), "a=f echo $a", 0, Checks.state("", "", "", 0, "\n"));
        checks.leaves(new Shell(), "> f < f", 0, Checks.state("", "", " f=[]", 0, ""));
        checks.leaves(new Shell(), "< f > f", 1, Checks.state("", "", "", 1, ""));
        checks.leaves(new Shell(), "cat > f >> f < f > g", 0, Checks.state("", "", " f=[] g=[]", 0, ""));
        checks.tooMuch("abcdefghij0123456789abcdefghij0123456789x < none");
        checks.leaves(new Shell(), "abcdefg=1 < none", 1, Checks.state("", "", "", 1, ""));
    }

    /** .. < a file: what that has when the utility runs is the input .. */
    private static void inputWhenTheUtilityRuns(Checks checks) {
        Shell shell = Checks.after("echo x > f; echo y > g");
        checks.script(shell, "cat < f", 0, "x\n");
        checks.script(shell, "echo z | cat < f", 0, "x\n");
        checks.script(shell, "echo z | cat < f > h; cat h", 0, "x\n");
        checks.script(shell, "echo z > f | cat < f", 0, "z\n");
        checks.leaves(shell, "cat < f >> f", 0, Checks.state("", "", " f=[z\nz\n] g=[y\n] h=[x\n]", 0, ""));
        checks.leaves(shell, "cat < f > f; rm h", 0, Checks.state("", "", " f=[] g=[y\n]", 0, ""));
        checks.leaves(shell, "< g cat; echo q | cat < f", 0, Checks.state("", "", " f=[] g=[y\n]", 0, "y\n"));
        checks.leaves(shell, "< g | cat", 0, Checks.state("", "", " f=[] g=[y\n]", 0, ""));
    }

    /** .. status 1 and no more (nothing is put out; what was opened ahead of it stays so) if there is none .. */
    private static void noSuchFile(Checks checks) {
        checks.leaves(new Shell(), "echo a < none", 1, Checks.state("", "", "", 1, ""));
        checks.leaves(new Shell(), "echo a < none | wc", 0, Checks.state("", "", "", 0, "0 0\n"));
        checks.leaves(new Shell(), "a=1 < none", 1, Checks.state("", "", "", 1, ""));
        checks.leaves(new Shell(), "set p < none", 1, Checks.state("", "", "", 1, ""));
        checks.leaves(new Shell(), "exit 5 < none; echo $?", 0, Checks.state("", "", "", 0, "1\n"));
        checks.leaves(new Shell(), "nope < none; echo $?", 0, Checks.state("", "", "", 0, "1\n"));
        checks.leaves(new Shell(), "false; < none", 1, Checks.state("", "", "", 1, ""));
        Shell shell = Checks.after("echo x > f; echo y > g");
        checks.leaves(shell, "echo a > f >> g > h < none > i", 1, Checks.state("", "", " f=[] g=[y\n] h=[]", 1, ""));
        checks.leaves(shell, "rm g < none; rm h >> g < none", 1, Checks.state("", "", " f=[] g=[y\n] h=[]", 1, ""));
        checks.leaves(shell, "cat < g < none || cat < none < g", 1, Checks.state("", "", " f=[] g=[y\n] h=[]", 1, ""));
    }

    /** .. or a name is empty .. */
    private static void emptyNames(Checks checks) {
        for (String operator : new String[] {"<", ">", ">>"}) {
            for (String word : new String[] {"''", "\"\"", "$none", "${none}", "${none:-}", "\"$none\""}) {
                checks.leaves(new Shell(), "a=1 echo b " + operator + word, 1, Checks.state("", "", "", 1, ""));
            }
            Shell shell = Checks.after("echo x > f; e=");
            checks.leaves(shell, "a=1 > f " + operator + "$e > g", 1, Checks.state(" e=[]", "", " f=[]", 1, ""));
        }
        checks.leaves(new Shell(), "> ' '", 0, Checks.state("", "", "  =[]", 0, ""));
    }

    /** .. > makes it empty, >> leaves it, both make one that is not there .. */
    private static void emptiedLeftOrMade(Checks checks) {
        Shell shell = Checks.after("echo x > f; echo y > g");
        checks.leaves(shell, "> f; >> g; > h; >> i", 0, Checks.state("", "", " f=[] g=[y\n] h=[] i=[]", 0, ""));
        checks.leaves(shell, "echo p > f; echo q >> g; echo r > h; echo s >> i", 0,
            Checks.state("", "", " f=[p\n] g=[y\nq\n] h=[r\n] i=[s\n]", 0, ""));
        checks.leaves(shell, "nope > f; wc x > h; true > i; rm g", 0, Checks.state("", "", " f=[] h=[] i=[]", 0, ""));
        checks.leaves(shell, "echo p > f; rm f; >> f; echo q > h; rm h; >> g; rm g", 0, Checks.state("", "", " f=[] i=[]", 0, ""));
        checks.leaves(shell, "echo p > h; rm h", 0, Checks.state("", "", " f=[] i=[]", 0, ""));
        checks.leaves(shell, ">> h", 0, Checks.state("", "", " f=[] h=[] i=[]", 0, ""));
        checks.leaves(shell, "test -e new > new && echo a >> new", 0, Checks.state("", "", " f=[] h=[] i=[] new=[a\n]", 0, ""));
    }

    /** .. and what is put out comes to its end, and to no next command .. */
    private static void toAFileAndNotOn(Checks checks) {
        checks.leaves(new Shell(), "echo a > f | wc", 0, Checks.state("", "", " f=[a\n]", 0, "0 0\n"));
        checks.leaves(new Shell(), "echo a >> f | cat; echo b >> f", 0, Checks.state("", "", " f=[a\nb\n]", 0, ""));
        checks.leaves(new Shell(), "echo a > f; cat f f >> f", 0, Checks.state("", "", " f=[a\na\na\n]", 0, ""));
        checks.leaves(new Shell(), "echo a > f >> f", 0, Checks.state("", "", " f=[a\n]", 0, ""));
        checks.leaves(new Shell(), "echo a > f | true > g | echo b", 0, Checks.state("", "", " f=[a\n] g=[]", 0, "b\n"));
    }

    /** .. the last of each direction counts, all are opened) .. */
    private static void theLastOfEachDirection(Checks checks) {
        checks.leaves(new Shell(), "echo a > f > g", 0, Checks.state("", "", " f=[] g=[a\n]", 0, ""));
        checks.leaves(new Shell(), "echo a > f >> g > h >> i", 0, Checks.state("", "", " f=[] g=[] h=[] i=[a\n]", 0, ""));
        Shell shell = Checks.after("echo x > f; echo y > g");
        checks.leaves(shell, "cat < f < g", 0, Checks.state("", "", " f=[x\n] g=[y\n]", 0, "y\n"));
        checks.leaves(shell, "cat < g > h < f >> i", 0, Checks.state("", "", " f=[x\n] g=[y\n] h=[] i=[x\n]", 0, ""));
        checks.leaves(shell, "echo z >> g > f > g", 0, Checks.state("", "", " f=[] g=[z\n] h=[] i=[x\n]", 0, ""));
    }

    /** Without fields: the assignments are carried out one by one (each expanded when those before it are done) .. */
    private static void assignmentsOneByOne(Checks checks) {
        checks.leaves(new Shell(), "a=1 b=$a a=2 c=$a$b", 0, Checks.state(" a=[2] b=[1] c=[21]", "", "", 0, ""));
        checks.leaves(new Shell(), "a=1 $none b=$a", 127, Checks.state("", "", "", 127, ""));
        checks.leaves(new Shell(), "a=1 b=$a $none", 0, Checks.state(" a=[1] b=[1]", "", "", 0, ""));
        checks.leaves(new Shell(), "a=1 > f b=${a:-no}", 0, Checks.state(" a=[1] b=[1]", "", " f=[]", 0, ""));
        checks.leaves(new Shell(), "a=1 a=$a$a a=$a$a", 0, Checks.state(" a=[1111]", "", "", 0, ""));
    }

    /** .. status 0. */
    private static void statusWithoutFields(Checks checks) {
        checks.leaves(new Shell(), "false; a=$?", 0, Checks.state(" a=[1]", "", "", 0, ""));
        checks.leaves(new Shell(), "false; > f", 0, Checks.state("", "", " f=[]", 0, ""));
        checks.leaves(new Shell(), "false; $none", 0, Checks.state("", "", "", 0, ""));
        checks.leaves(new Shell(), "false || a=1 && b=2", 0, Checks.state(" a=[1] b=[2]", "", "", 0, ""));
    }

    /** With fields: they are expanded, but nothing comes of them; the first field is the UTILITY .. */
    private static void assignmentsBeforeAUtility(Checks checks) {
        Shell shell = Checks.after("a=1");
        checks.leaves(shell, "a=2 b=3 echo $a$b", 0, Checks.state(" a=[1]", "", "", 0, "1\n"));
        checks.leaves(shell, "a=2 b=3 ''", 127, Checks.state(" a=[1]", "", "", 127, ""));
        checks.leaves(shell, "a=2 unset a", 0, Checks.state("", "", "", 0, ""));
        checks.leaves(shell, "c='echo x  y' d=z", 0, Checks.state(" c=[echo x  y] d=[z]", "", "", 0, ""));
        checks.leaves(shell, "e=1 $none $c $d", 0, Checks.state(" c=[echo x  y] d=[z]", "", "", 0, "x y z\n"));
        checks.leaves(shell, "\"$c\"", 127, Checks.state(" c=[echo x  y] d=[z]", "", "", 127, ""));
        checks.leaves(shell, "> echo; unset c d; ech? a", 0, Checks.state("", "", " echo=[]", 0, "a\n"));
    }

    public static void main(String[] args) {
        Checks checks = new Checks("running boundaries");
        inputsAndTheOutput(checks);
        oneCommandChangesForGood(checks);
        commandsOfMoreHaveTheirOwn(checks);
        statusOfAPipeline(checks);
        andOrFromLeftToRight(checks);
        wordsThenRedirectionsThenAssignments(checks);
        inputWhenTheUtilityRuns(checks);
        noSuchFile(checks);
        emptyNames(checks);
        emptiedLeftOrMade(checks);
        toAFileAndNotOn(checks);
        theLastOfEachDirection(checks);
        assignmentsOneByOne(checks);
        statusWithoutFields(checks);
        assignmentsBeforeAUtility(checks);
        checks.end();
    }
}
