import java.util.ArrayList;
import java.util.List;
import java.util.function.Consumer;

/**
 * A TinyShell for tests that ask much: no object is used for more than the 512 calls behind which its answers are
 * free. When they are used up, a new object takes its place, on which the calls that change it are made again.
 */
final class Shell {
    private static final int CALLS_MOST = 512;

    private final List<Consumer<TinyShell>> changes = new ArrayList<>();
    private TinyShell shell = new TinyShell();
    private int calls = 0;

    boolean type(long eight) {
        TinyShell asked = readyForCall();
        changes.add(again -> again.type(eight));
        return asked.type(eight);
    }

    void wipe() {
        TinyShell asked = readyForCall();
        changes.add(TinyShell::wipe);
        asked.wipe();
    }

    int run() {
        TinyShell asked = readyForCall();
        changes.add(Shell::runAgain);
        return asked.run();
    }

    int place() {
        return readyForCall().place();
    }

    char output(int k) {
        return readyForCall().output(k);
    }

    int count(int what) {
        return readyForCall().count(what);
    }

    char value(int i, int k) {
        return readyForCall().value(i, k);
    }

    char position(int i, int k) {
        return readyForCall().position(i, k);
    }

    char content(int i, int k) {
        return readyForCall().content(i, k);
    }

    char name(boolean files, int i, int k) {
        return readyForCall().name(files, i, k);
    }

    private static void runAgain(TinyShell again) {
        try {
            again.run();
        } catch (IllegalArgumentException | UnsupportedOperationException e) {
            // It was told when the call was made first.
        }
    }

    private TinyShell readyForCall() {
        if (calls == CALLS_MOST) {
            if (changes.size() >= CALLS_MOST) {
                throw new IllegalStateException("a test changes one shell more often than its calls allow");
            }
            shell = new TinyShell();
            for (Consumer<TinyShell> change : changes) {
                change.accept(shell);
            }
            calls = changes.size();
        }
        calls++;
        return shell;
    }
}
