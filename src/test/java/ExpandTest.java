/** Promise 4: how words are expanded. */
public final class ExpandTest {
    private static void parameters(Checks checks) {
        Shell shell = Checks.after("a=x; ab=y; set one two; false");
        checks.script(shell, "echo $? $?", 0, "1 1\n");
        checks.script(shell, "echo $a $ab ${a}b $a-b $abc $1$2 $3 $# $10 $0 $", 0, "x y xb x-b onetwo 2 one0 $0 $\n");
        checks.script(shell, "echo $a.$ab/$a1 $'a' $\"a\" \"$\" \"$ a\" $$ \"$0\"", 0, "x.y/ $a $a $ $ a $$ $0\n");
        checks.script(shell, "echo ${a:-no} ${z:-no} \"${z:-n  o}\" ${z:-n  o} [${z}]", 0, "x no n  o n o []\n");
        checks.script(shell, "e=; echo ${e:-empty} ${e} .", 0, "empty .\n");
        checks.script(shell, "echo ${longername:-none}$longername", 0, "none\n");
        checks.script(shell, "exit 205", 205, "");
        checks.script(shell, "echo $?0", 0, "2050\n");
        checks.script("A=1 Z=2 a=3 z=4 A0=5 z9=6 _0=7; echo $A$Z$a$z $A0$z9$_0 ${A}${z9} $A@$A[", 0,
            "1234 567 16 1@1[\n");
        checks.script(shell, "echo $@a $[a $`a $/ $: $!", 0, "$@a $[a $`a $/ $: $!\n");
        checks.script(shell, "echo $_ $_a; _a=1; echo $_a", 0, "\n1\n");
    }

    private static void quotes(Checks checks) {
        Shell shell = Checks.after("a='x  y'");
        checks.script(shell, "echo '$a \\ \"' \"'\" \\' \\$a \\a \\\\", 0, "$a \\ \" ' ' $a a \\\n");
        checks.script(shell, "echo \"\\$a \\\" \\\\ \\a \\' \\* $a\"", 0, "$a \" \\ \\a \\' \\* x  y\n");
        checks.script(shell, "echo 'a\nb' \"c\nd\" a\\ \\ b", 0, "a\nb c\nd a  b\n");
        checks.script(shell, "echo a'b'\"c\"\\d$a", 0, "abcdx y\n");
        checks.script(shell, "echo \"|&;<>()#\" '|' \\; \\( \\#", 0, "|&;<>()# | ; ( #\n");
    }

    private static void fields(Checks checks) {
        Shell shell = Checks.after("a='  x  y '; n='1\n2'; b=' '; e=");
        checks.script(shell, "set $a; echo $# [$1] [$2]", 0, "2 [x] [y]\n");
        checks.script(shell, "set p$a\"q\"; echo $# [$1] [$3] [$4]", 0, "4 [p] [y] [q]\n");
        checks.script(shell, "set ''$a''; echo $# \"[$1]\" [$2] \"[$4]\"", 0, "4 [] [x] []\n");
        checks.script(shell, "set $b''$b; echo $#; set $b\"$e\"$b; echo $#", 0, "1\n1\n");
        checks.script(shell, "set $n$n; echo $# $2", 0, "3 21\n");
        checks.script(shell, "set \"$n\" '' \"\" \"$e\"; echo $#", 0, "4\n");
        checks.script(shell, "set $e $b $e$b$e $z; echo $#", 0, "0\n");
        checks.script(shell, "set ${z:- p q }r; echo $# $1 $2 $3", 0, "3 p q r\n");
        checks.script(shell, "set \"${z:- p q }\"r; echo $# \"$1\"", 0, "1  p q r\n");
        checks.script(shell, "set a b; set $1$b$2 $1\\ $2; echo $# \"$3\"", 0, "3 a b\n");
        checks.script(shell, "c=$a; echo \"$c\"", 0, "  x  y \n");
        checks.script(shell, "c=$a$n\"$b\"; echo \"$c\"", 0, "  x  y 1\n2 \n");
        checks.script(shell, "u='echo  in'; $u a", 0, "in a\n");
        checks.script(shell, "$e$b; echo $?", 0, "0\n");
        checks.script(shell, "$e ''", 127, "");
    }

    private static void patterns(Checks checks) {
        Shell shell = Checks.after("> b; > a; > ab; > 'a b'; > abc; > B", "p='a*'; q='?'; s='? ab*'");
        checks.script(shell, "echo *", 0, "B a a b ab abc b\n");
        checks.script(shell, "echo a* ?b ? a?? *b* *c", 0, "a a b ab abc ab B a b a b abc a b ab abc b abc\n");
        checks.script(shell, "echo z* ?? a*z", 0, "z* ab a*z\n");
        checks.script(shell, "echo 'a*' \"a\"* a\\* a\"*\" \\? a''*c", 0, "a* a a b ab abc a* a* ? abc\n");
        checks.script(shell, "echo $p \"$p\" $q $s ${z:-?b}", 0, "a a b ab abc a* B a b B a b ab abc ab\n");
        checks.script(shell, "echo **b ?*? *a*b*c* ab?* ab*", 0, "a b ab b a b ab abc abc abc ab abc\n");
        checks.script(shell, "set a\\ *; echo $# \"$1\"", 0, "1 a b\n");
        checks.script(shell, "echo x > ?; cat \\?; rm '?'", 0, "x\n");
        checks.script(shell, "v=*; echo \"$v\"", 0, "*\n");
        checks.script(shell, "rm *; echo * > z; cat z; echo *", 0, "*\nz\n");
        checks.script(shell, "> '*'; > '**'; echo '*'* \\*; > 'a\nb'; echo a?b", 0, "* ** *\na\nb\n");
        checks.script(shell, "test '' = ''; echo ''*'' ; rm '*' '**' z 'a\nb'; ''*", 127, "* ** a\nb z\n");
    }

    public static void main(String[] args) {
        Checks checks = new Checks("expanding");
        parameters(checks);
        quotes(checks);
        fields(checks);
        patterns(checks);
        checks.end();
    }
}
