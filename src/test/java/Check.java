import java.util.function.IntSupplier;
import java.util.function.Supplier;
import java.util.function.ToIntFunction;

/** Counts wrong answers and tells them. */
final class Check {
    private int calls = 0;
    private int wrong = 0;
    private String sentence = "";

    /** The document's sentence that the checks from here on are about. */
    void about(String words) {
        sentence = words + ": ";
    }

    void same(String call, long got, long due) {
        calls++;
        if (got != due) {
            tell(call + " answered " + got + ", due is " + due);
        }
    }

    void yes(String what, boolean holds) {
        calls++;
        if (!holds) {
            tell(what + " does not hold");
        }
    }

    void argument(String call, IntSupplier work) {
        thrown(call, IllegalArgumentException.class, work);
    }

    void state(String call, IntSupplier work) {
        thrown(call, IllegalStateException.class, work);
    }

    void index(String call, IntSupplier work) {
        thrown(call, IndexOutOfBoundsException.class, work);
    }

    /** The call is refused, and the season is what it was; a season of its own, so that no call is beyond the 512th. */
    void argument(String call, Supplier<PoloSeason> made, ToIntFunction<PoloSeason> work) {
        refused(call, IllegalArgumentException.class, made, work);
    }

    void state(String call, Supplier<PoloSeason> made, ToIntFunction<PoloSeason> work) {
        refused(call, IllegalStateException.class, made, work);
    }

    void index(String call, Supplier<PoloSeason> made, ToIntFunction<PoloSeason> work) {
        refused(call, IndexOutOfBoundsException.class, made, work);
    }

    /** The call answers, and the season is what it was. */
    void keeps(String call, int due, Supplier<PoloSeason> made, ToIntFunction<PoloSeason> work) {
        PoloSeason x = made.get();
        String before = Picture.of(x);
        same(call, work.applyAsInt(x), due);
        unchanged(call, before, x);
    }

    private void refused(String call, Class<? extends RuntimeException> due, Supplier<PoloSeason> made,
            ToIntFunction<PoloSeason> work) {
        PoloSeason x = made.get();
        String before = Picture.of(x);
        thrown(call, due, () -> work.applyAsInt(x));
        unchanged(call, before, x);
    }

    private void unchanged(String call, String before, PoloSeason x) {
        calls++;
        String after = Picture.of(x);
        if (!after.equals(before)) {
            tell(call + " made of " + before + " this: " + after);
        }
    }

    /** The class itself is asked for, so that what the machine throws (a class below) does not pass for it. */
    private void thrown(String call, Class<? extends RuntimeException> due, IntSupplier work) {
        calls++;
        try {
            tell(call + " answered " + work.getAsInt() + ", due is " + due.getName());
        } catch (RuntimeException e) {
            if (e.getClass() != due) {
                tell(call + " threw " + e.getClass().getName() + ", due is " + due.getName());
            }
        }
    }

    void finish(String name) {
        System.out.println(name + ": " + calls + " checks, " + wrong + " wrong");
        if (wrong != 0 || calls == 0) {
            System.exit(1);
        }
    }

    private void tell(String text) {
        wrong++;
        if (wrong <= 20) {
            System.out.println(sentence + text);
        }
    }
}
