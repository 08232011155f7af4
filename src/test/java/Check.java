import java.util.function.IntSupplier;

/** Counts wrong answers and tells them. */
final class Check {
    private int calls = 0;
    private int wrong = 0;

    void same(String call, long got, long due) {
        calls++;
        if (got != due) {
            tell(call + " answered " + got + ", due is " + due);
        }
    }

    void yes(String what, boolean holds) {
        calls++;
        if (!holds) {
            tell(what + " does not hold");
        }
    }

    void argument(String call, IntSupplier work) {
        thrown(call, IllegalArgumentException.class, work);
    }

    void state(String call, IntSupplier work) {
        thrown(call, IllegalStateException.class, work);
    }

    void index(String call, IntSupplier work) {
        thrown(call, IndexOutOfBoundsException.class, work);
    }

    /** The class itself is asked for, so that what the machine throws (a class below) does not pass for it. */
    private void thrown(String call, Class<? extends RuntimeException> due, IntSupplier work) {
        calls++;
        try {
            tell(call + " answered " + work.getAsInt() + ", due is " + due.getName());
        } catch (RuntimeException e) {
            if (e.getClass() != due) {
                tell(call + " threw " + e.getClass().getName() + ", due is " + due.getName());
            }
        }
    }

    void finish(String name) {
        System.out.println(name + ": " + calls + " checks, " + wrong + " wrong");
        if (wrong != 0 || calls == 0) {
            System.exit(1);
        }
    }

    private void tell(String text) {
        wrong++;
        if (wrong <= 20) {
            System.out.println(text);
        }
    }
}
