/** The boundary cases that the promises 1 to 11 name themselves: a test for each sentence. */
public final class PromiseBoundaryTest {
    private static final String NOTHING = Checks.state("", "", "", 0, "");
    private static final int[] OUTSIDE = {-1, -2, Integer.MIN_VALUE, Integer.MIN_VALUE + 1, Integer.MAX_VALUE,
        Integer.MAX_VALUE - 1, 256, 1 << 16, 1 << 30};

    private static long eight(int... bytes) {
        long all = 0;
        for (int b : bytes) {
            all = all << 8 | b;
        }
        return all;
    }

    /** Promise 1: No script, no variables, positions, files, status 0, empty OUTPUT. */
    private static void aNewObject(Checks checks) {
        Shell shell = new Shell();
        checks.same("a new shell", Checks.state(shell), NOTHING);
        for (int what = 0; what <= 4; what++) {
            checks.same("count(" + what + ")", shell.count(what), 0);
        }
        for (int i = 0; i <= 10; i++) {
            checks.same("name(false, " + i + ", 0)", shell.name(false, i, 0), '\0');
            checks.same("name(true, " + i + ", 0)", shell.name(true, i, 0), '\0');
            checks.same("value(" + i + ", 0)", shell.value(i, 0), '\0');
            checks.same("position(" + i + ", 0)", shell.position(i, 0), '\0');
            checks.same("content(" + i + ", 0)", shell.content(i, 0), '\0');
            checks.same("output(" + i + ")", shell.output(i), '\0');
        }
        checks.same("run() of no script", Checks.runTyped(shell), "0");
        checks.same("the shell behind it", Checks.state(shell), NOTHING);
        checks.same("a whole script fits", Checks.type(new Shell(), "x".repeat(240)), true);
        checks.leaves(new Shell(), "echo $?$#*; exit", 0, Checks.state("", "", "", 0, "00*\n"));
    }

    /** Promise 2: Appends .. the bytes of eight, from the highest to the lowest, zeros left out: true. */
    private static void typeLeavesZerosOut(Checks checks) {
        Shell shell = new Shell();
        checks.same("type(0)", shell.type(0), true);
        checks.same("eight bytes", shell.type(eight('e', 'c', 'h', 'o', ' ', '1', '2', '3')), true);
        checks.same("one byte, the lowest", shell.type('4'), true);
        checks.same("one byte, the highest", shell.type(eight('5', 0, 0, 0, 0, 0, 0, 0)), true);
        checks.same("zeros between", shell.type(eight(0, '6', 0, 0, '7', 0, '8', 0)), true);
        checks.same("type(0) again", shell.type(0), true);
        checks.same("run()", Checks.runTyped(shell), "0");
        checks.same("what was typed", Checks.output(shell), "12345678\n");
    }

    /** Promise 2: Refused (false) when a byte is neither 0, 10 nor 32 .. 126 .. */
    private static void typeRefusesOtherBytes(Checks checks) {
        for (int b : new int[] {1, 9, 11, 31, 127, 128, 138, 160, 255}) {
            for (int at = 0; at < 8; at++) {
                int[] bytes = {'a', 'b', 'c', 'd', 'e', 'f', 'g', 'h'};
                bytes[at] = b;
                Shell shell = new Shell();
                Checks.type(shell, "echo x");
                checks.same("byte " + b + " at " + at, shell.type(eight(bytes)), false);
                checks.same("typing behind it", shell.type('y'), true);
                Checks.runTyped(shell);
                checks.same("the script behind it", Checks.output(shell), "xy\n");
            }
        }
        for (int b : new int[] {0, 10, 32, 126}) {
            for (int at = 0; at < 8; at++) {
                checks.same("byte " + b + " at " + at, new Shell().type((long) b << 8 * at), true);
            }
        }
        checks.same("type(-1)", new Shell().type(-1), false);
        checks.same("the least long", new Shell().type(Long.MIN_VALUE), false);
        checks.same("the greatest long", new Shell().type(Long.MAX_VALUE), false);
    }

    /** Promise 2: .. or there would be more than 240. */
    private static void typeRefusesMoreThan240(Checks checks) {
        for (int room = 0; room <= 8; room++) {
            for (int more = 0; more <= 8; more++) {
                Shell shell = new Shell();
                Checks.type(shell, " ".repeat(235 - room) + "echo ");
                int[] bytes = new int[8];
                for (int k = 0; k < more; k++) {
                    bytes[7 - k] = 'x';
                }
                checks.same(more + " in a room of " + room, shell.type(eight(bytes)), more <= room);
                checks.same("the rest", Checks.type(shell, "y".repeat(more <= room ? room - more : room)), true);
                checks.same("one too many", shell.type('z'), false);
                checks.same("no more at all", shell.type(0), true);
                Checks.runTyped(shell);
                String due = more <= room ? "x".repeat(more) + "y".repeat(room - more) : "y".repeat(room);
                checks.same("the script then", Checks.output(shell), due + "\n");
            }
        }
    }

    /** Promise 3: Empties the script. */
    private static void wipeEmptiesTheScript(Checks checks) {
        Shell shell = Checks.after(" (", "a=1; set p; echo x > f; echo out; exit 3");
        String before = Checks.state(shell);
        shell.wipe();
        checks.same("wipe leaves all else", Checks.state(shell), before);
        checks.same("wipe leaves the place", shell.place(), 1);
        checks.same("240 again", Checks.type(shell, "(".repeat(240)), true);
        checks.same("and no more", shell.type('('), false);
        shell.wipe();
        shell.wipe();
        checks.same("run() of nothing", Checks.runTyped(shell), "3");
        checks.same("an empty OUTPUT", shell.count(4), 0);
        checks.same("the place", shell.place(), 1);
        Shell fresh = new Shell();
        fresh.wipe();
        checks.same("wipe of no script", Checks.state(fresh), NOTHING);
        checks.script(fresh, "echo a", 0, "a\n");
    }

    /** Promise 4: Runs the script, with an OUTPUT that is empty at first: its last status .. */
    private static void runStartsWithNoOutput(Checks checks) {
        Shell shell = Checks.after("echo abc");
        checks.leaves(shell, "echo d", 0, Checks.state("", "", "", 0, "d\n"));
        checks.same("run() again", Checks.runTyped(shell), "0");
        checks.same("the same OUTPUT", Checks.state(shell), Checks.state("", "", "", 0, "d\n"));
        checks.leaves(shell, "true", 0, NOTHING);
        checks.leaves(shell, "echo a; false; nope", 127, Checks.state("", "", "", 127, "a\n"));
    }

    /** Promise 4: .. (that of before, if it has no pipeline). */
    private static void runWithoutAPipeline(Checks checks) {
        for (String script : new String[] {"", " ", "\n", "#", " # echo a\n\n", "\n\n"}) {
            Shell shell = Checks.after("a=1; set p; echo x > f; echo out; exit 77");
            checks.leaves(shell, script, 77, Checks.state(" a=[1]", " [p]", " f=[x\n]", 77, ""));
        }
    }

    /** Promise 4: Variables, positions, files and status stay for the next one. */
    private static void runKeepsTheState(Checks checks) {
        Shell shell = Checks.after("a=1; set p q; echo x > f; exit 9");
        checks.leaves(shell, "echo $? $a $1$2 $#; cat f", 0, Checks.state(" a=[1]", " [p] [q]", " f=[x\n]", 0, "9 1 pq 2\nx\n"));
        checks.leaves(shell, "a=$a$a; set $2; echo y >> f; false", 1, Checks.state(" a=[11]", " [q]", " f=[x\ny\n]", 1, ""));
        checks.leaves(shell, "unset a; set; rm f", 0, NOTHING);
    }

    /** Promise 4: IllegalArgumentException .. UnsupportedOperationException .. When it throws, nothing has changed .. */
    private static void runThatThrows(Checks checks) {
        Shell shell = Checks.after("a=1; set p; echo x > f; echo out; exit 9");
        String before = Checks.state(shell);
        String changes = "a=2; b=3; set q r; echo y >> f; echo z > g; rm f; echo more; true; ";
        checks.same("malformed", Checks.run(shell, changes + "("), Checks.MALFORMED);
        checks.same("the state", Checks.state(shell), before);
        checks.same("the place", shell.place(), changes.length());
        checks.same("too much", Checks.run(shell, changes + "abcdefg="), Checks.TOO_MUCH);
        checks.same("the state", Checks.state(shell), before);
        checks.same("the place", shell.place(), changes.length());
        checks.same("the script has stayed", Checks.runTyped(shell), Checks.TOO_MUCH);
        checks.same("too much in a pipeline", Checks.run(shell, "a=2 | set | rm f | abcdefg= | true"), Checks.TOO_MUCH);
        checks.same("the state", Checks.state(shell), before);
        checks.leaves(shell, "echo $?$a$1; cat f", 0, Checks.state(" a=[1]", " [p]", " f=[x\n]", 0, "91p\nx\n"));
        checks.same("both", Checks.run(shell, "abcdefg=; ("), Checks.MALFORMED);
    }

    /** Promise 5: Where the latest script that was MALFORMED was so (other runs leave it); 0 at first. */
    private static void place(Checks checks) {
        Shell shell = new Shell();
        checks.same("place at first", shell.place(), 0);
        Checks.run(shell, "echo a");
        checks.same("place behind a good run", shell.place(), 0);
        Checks.run(shell, "abcdefg=");
        checks.same("place behind too much", shell.place(), 0);
        Checks.run(shell, "a (");
        checks.same("place of the first", shell.place(), 2);
        Checks.run(shell, "echo a");
        Checks.run(shell, "");
        Checks.run(shell, "abcdefg=");
        checks.same("place behind other runs", shell.place(), 2);
        Checks.run(shell, "a ( (");
        checks.same("place of the same again", shell.place(), 2);
        Checks.run(shell, "x".repeat(239) + "|");
        checks.same("the greatest place", shell.place(), 240);
        Checks.run(shell, ")");
        checks.same("the least place", shell.place(), 0);
    }

    /** Promise 6: Character k of the OUTPUT; 0 when there is none. */
    private static void output(Checks checks) {
        Shell shell = Checks.after("echo abc");
        checks.same("output(0)", shell.output(0), 'a');
        checks.same("output(3), the last", shell.output(3), '\n');
        checks.same("output(4)", shell.output(4), '\0');
        for (int k : OUTSIDE) {
            checks.same("output(" + k + ")", shell.output(k), '\0');
        }
        Checks.run(shell, "echo d");
        checks.same("output(1) of a shorter one", shell.output(1), '\n');
        checks.same("output(2) of a shorter one", shell.output(2), '\0');
        Checks.run(shell, "a=" + "x".repeat(39) + "; echo $a > f; echo $a >> f; cat f f f");
        checks.same("output(238)", shell.output(238), 'x');
        checks.same("output(239)", shell.output(239), '\n');
        checks.same("output(240)", shell.output(240), '\0');
    }

    /** Promise 7: How many variables (what 0), positions (1), files (2) .. the status (3) .. (4); -1 for others. */
    private static void count(Checks checks) {
        Shell shell = Checks.after("a=1 b=2; set p q r; > f; > g; > h; > i; echo 12345; exit 77");
        int[] due = {2, 3, 4, 77, 6};
        for (int what = 0; what < due.length; what++) {
            checks.same("count(" + what + ")", shell.count(what), due[what]);
        }
        checks.same("count(5)", shell.count(5), -1);
        for (int what : OUTSIDE) {
            checks.same("count(" + what + ")", shell.count(what), -1);
        }
        Shell full = Checks.after("a= b= c= d= e= f= g= h=; set 1 2 3 4 5 6 7 8 9; >a;>b;>c;>d;>e;>f;>g;>h",
            "echo " + "x".repeat(40) + " " + "x".repeat(38) + " > a; cat a a a; exit 255");
        int[] most = {8, 9, 8, 255, 240};
        for (int what = 0; what < most.length; what++) {
            checks.same("the most of count(" + what + ")", full.count(what), most[what]);
        }
    }

    /** Promise 8: Character k of the value of variable i, of those by rising names; 0 when there is none. */
    private static void value(Checks checks) {
        String forty = "0123456789012345678901234567890123456789";
        Shell shell = Checks.after("c=xyz; a=; b=" + forty);
        checks.same("value(0, 0), empty", shell.value(0, 0), '\0');
        checks.same("value(1, 0)", shell.value(1, 0), '0');
        checks.same("value(1, 39)", shell.value(1, 39), '9');
        checks.same("value(1, 40)", shell.value(1, 40), '\0');
        checks.same("value(2, 2)", shell.value(2, 2), 'z');
        checks.same("value(2, 3)", shell.value(2, 3), '\0');
        checks.same("value(3, 0)", shell.value(3, 0), '\0');
        for (int far : OUTSIDE) {
            checks.same("value(1, " + far + ")", shell.value(1, far), '\0');
            checks.same("value(" + far + ", 0)", shell.value(far, 0), '\0');
        }
        Checks.run(shell, "unset b; c=w");
        checks.same("value(1, 0) behind unset", shell.value(1, 0), 'w');
        checks.same("value(1, 1) of a shorter one", shell.value(1, 1), '\0');
        checks.same("value(2, 0) behind unset", shell.value(2, 0), '\0');
        Shell full = Checks.after("a=1 b=2 c=3 d=4 e=5 f=6 g=7 h=8");
        checks.same("value(7, 0)", full.value(7, 0), '8');
        checks.same("value(8, 0)", full.value(8, 0), '\0');
    }

    /** Promise 9: Character k of position i, from 1. */
    private static void position(Checks checks) {
        String forty = "0123456789012345678901234567890123456789";
        Shell shell = Checks.after("set a '' " + forty);
        checks.same("position(0, 0)", shell.position(0, 0), '\0');
        checks.same("position(1, 0)", shell.position(1, 0), 'a');
        checks.same("position(1, 1)", shell.position(1, 1), '\0');
        checks.same("position(2, 0)", shell.position(2, 0), '\0');
        checks.same("position(3, 0)", shell.position(3, 0), '0');
        checks.same("position(3, 39)", shell.position(3, 39), '9');
        checks.same("position(3, 40)", shell.position(3, 40), '\0');
        checks.same("position(4, 0)", shell.position(4, 0), '\0');
        for (int far : OUTSIDE) {
            checks.same("position(1, " + far + ")", shell.position(1, far), '\0');
            checks.same("position(" + far + ", 0)", shell.position(far, 0), '\0');
        }
        Checks.run(shell, "set b");
        checks.same("position(3, 0) behind set", shell.position(3, 0), '\0');
        Shell full = Checks.after("set 1 2 3 4 5 6 7 8 9");
        checks.same("position(9, 0)", full.position(9, 0), '9');
        checks.same("position(10, 0)", full.position(10, 0), '\0');
        checks.same("position(0, 0)", full.position(0, 0), '\0');
    }

    /** Promise 10: Character k of file i, of those by rising names. */
    private static void content(Checks checks) {
        String line = "0123456789012345678901234567890123456789";
        Shell shell = Checks.after("echo xyz > c; > a; echo " + line + " " + line.substring(2) + " > b");
        checks.same("content(0, 0), empty", shell.content(0, 0), '\0');
        checks.same("content(1, 0)", shell.content(1, 0), '0');
        checks.same("content(1, 79)", shell.content(1, 79), '\n');
        checks.same("content(1, 80)", shell.content(1, 80), '\0');
        checks.same("content(2, 3)", shell.content(2, 3), '\n');
        checks.same("content(2, 4)", shell.content(2, 4), '\0');
        checks.same("content(3, 0)", shell.content(3, 0), '\0');
        for (int far : OUTSIDE) {
            checks.same("content(1, " + far + ")", shell.content(1, far), '\0');
            checks.same("content(" + far + ", 0)", shell.content(far, 0), '\0');
        }
        Checks.run(shell, "rm b; echo w > c");
        checks.same("content(1, 0) behind rm", shell.content(1, 0), 'w');
        checks.same("content(1, 2) of a shorter one", shell.content(1, 2), '\0');
        checks.same("content(2, 0) behind rm", shell.content(2, 0), '\0');
        Shell full = Checks.after("echo 1>a;>b;>c;>d;>e;>f;>g;echo 8>h");
        checks.same("content(7, 0)", full.content(7, 0), '8');
        checks.same("content(8, 0)", full.content(8, 0), '\0');
    }

    /** Promise 11: Character k of the name of variable i (files false) or file i (true). */
    private static void name(Checks checks) {
        Shell shell = Checks.after("b=1 abcdef=2 B=3; > g; > 12345678; > ga");
        String[] variables = {"B", "abcdef", "b", ""};
        String[] files = {"12345678", "g", "ga", ""};
        for (int i = 0; i < 4; i++) {
            checks.same("name(false, " + i + ")", Checks.name(shell, false, i), variables[i]);
            checks.same("name(true, " + i + ")", Checks.name(shell, true, i), files[i]);
        }
        checks.same("name(false, 1, 5)", shell.name(false, 1, 5), 'f');
        checks.same("name(false, 1, 6)", shell.name(false, 1, 6), '\0');
        checks.same("name(true, 0, 7)", shell.name(true, 0, 7), '8');
        checks.same("name(true, 0, 8)", shell.name(true, 0, 8), '\0');
        for (int far : OUTSIDE) {
            checks.same("name(false, 1, " + far + ")", shell.name(false, 1, far), '\0');
            checks.same("name(false, " + far + ", 0)", shell.name(false, far, 0), '\0');
            checks.same("name(true, 0, " + far + ")", shell.name(true, 0, far), '\0');
            checks.same("name(true, " + far + ", 0)", shell.name(true, far, 0), '\0');
        }
        Checks.run(shell, "unset b abcdef; rm g ga");
        checks.same("name(false, 0) behind unset", Checks.name(shell, false, 0), "B");
        checks.same("name(true, 0) behind rm", Checks.name(shell, true, 0), "12345678");
        for (int i = 1; i < 4; i++) {
            checks.same("name(false, " + i + ", 0) behind unset", shell.name(false, i, 0), '\0');
            checks.same("name(true, " + i + ", 0) behind rm", shell.name(true, i, 0), '\0');
        }
        Shell some = Checks.after("a=1 b=2; > f");
        checks.same("name(true, 1, 0)", some.name(true, 1, 0), '\0');
        checks.same("name(false, 1, 0)", some.name(false, 1, 0), 'b');
    }

    /** What it is: An object is used for at most 512 calls after it has been made .. */
    private static void theLastOf512Calls(Checks checks) {
        TinyShell shell = new TinyShell();
        for (int round = 0; round < 102; round++) {
            shell.wipe();
            checks.same("type", shell.type(eight('a', '=', '$', '?', ';', 'w', 'c')), true);
            checks.same("run " + round, shell.run(), 0);
            checks.same("count(4)", shell.count(4), 4);
            checks.same("value(0, 0)", shell.value(0, 0), '0');
        }
        checks.same("call 511", shell.type(eight(';', '(')), true);
        String answer;
        try {
            answer = String.valueOf(shell.run());
        } catch (IllegalArgumentException e) {
            answer = Checks.MALFORMED;
        }
        checks.same("call 512", answer, Checks.MALFORMED);
    }

    /** Promises 5 to 11: they tell, and change nothing. */
    private static void looksChangeNothing(Checks checks) {
        Shell shell = Checks.after("(", "a=1; set p; echo x > f; echo out; exit 9");
        String before = Checks.state(shell);
        for (int far : OUTSIDE) {
            shell.output(far);
            shell.count(far);
            shell.value(far, far);
            shell.position(far, far);
            shell.content(far, far);
            shell.name(true, far, far);
            shell.name(false, far, far);
        }
        checks.same("behind the looks", Checks.state(shell), before);
        checks.same("the script behind them", Checks.runTyped(shell), "9");
    }

    public static void main(String[] args) {
        Checks checks = new Checks("promise boundaries");
        aNewObject(checks);
        typeLeavesZerosOut(checks);
        typeRefusesOtherBytes(checks);
        typeRefusesMoreThan240(checks);
        wipeEmptiesTheScript(checks);
        runStartsWithNoOutput(checks);
        runWithoutAPipeline(checks);
        runKeepsTheState(checks);
        runThatThrows(checks);
        place(checks);
        output(checks);
        count(checks);
        value(checks);
        position(checks);
        content(checks);
        name(checks);
        theLastOf512Calls(checks);
        looksChangeNothing(checks);
        checks.end();
    }
}
