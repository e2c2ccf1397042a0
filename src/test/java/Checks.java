import java.util.Arrays;

/** Counts the answers that are not the due ones, and prints each of them. */
final class Checks {
    private int made;
    private int wrong;

    void is(String call, long got, long due) {
        made++;
        if (got != due) {
            wrong++;
            System.out.println(call + " answered " + got + ", due is " + due);
        }
    }

    void is(String call, boolean got, boolean due) {
        is(call, got ? 1 : 0, due ? 1 : 0);
    }

    void is(String call, String got, String due) {
        made++;
        if (!got.equals(due)) {
            wrong++;
            System.out.println(call + " answered " + got + ", due is " + due);
        }
    }

    /** The call throws an exception of just this class. */
    void fails(String call, Class<?> due, Runnable body) {
        String got = "nothing";
        try {
            body.run();
        } catch (RuntimeException e) {
            got = e.getClass().getName();
        }
        is(call + " throws", got, due.getName());
    }

    /** As fails(), and nothing that the object tells is changed by the call. */
    void refuses(String call, Class<?> due, ExtentTree tree, Runnable body) {
        byte[] before = Told.everything(tree);
        fails(call, due, body);
        is(call + " changes nothing", Arrays.equals(Told.everything(tree), before), true);
    }

    void end(String name) {
        System.out.println(name + ": " + made + " checks, " + wrong + " wrong");
        System.exit(wrong == 0 && made > 0 ? 0 : 1);
    }
}
