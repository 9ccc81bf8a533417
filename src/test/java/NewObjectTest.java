/** Promise 1: a new object. */
public final class NewObjectTest {
    public static void main(String[] args) {
        Checks checks = new Checks("new object");
        Shell shell = new Shell();
        checks.same("a new shell", Checks.state(shell), "variables; positions; files; status 0; output 0 []");
        checks.same("place()", shell.place(), 0);
        checks.same("run() without a script", Checks.runTyped(shell), "0");
        checks.same("the state behind it", Checks.state(shell), "variables; positions; files; status 0; output 0 []");

        Shell one = Checks.after("a=1; set p; echo x > f; false");
        checks.same("another new shell", Checks.state(new Shell()),
            "variables; positions; files; status 0; output 0 []");
        checks.same("the first one", Checks.state(one), "variables a=[1]; positions [p]; files f=[x\n]; status 1; output 0 []");
        checks.end();
    }
}
