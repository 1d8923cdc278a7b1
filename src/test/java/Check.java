import java.util.function.LongSupplier;
import java.util.function.Supplier;
import java.util.function.ToLongFunction;

/** Counts the answers that are not as due; used by every test of the project. */
final class Check {
    private final String title;
    private int right;
    private int wrong;

    Check(String title) {
        this.title = title;
    }

    void same(String what, long got, long due) {
        note(got == due, what + " answered " + got + ", due is " + due);
    }

    void same(String what, boolean got, boolean due) {
        note(got == due, what + " answered " + got + ", due is " + due);
    }

    void same(String what, String got, String due) {
        note(got.equals(due), what + "\n  answered " + got + "\n  due is   " + due);
    }

    /** The very class counts: what the machine throws is of a class below the one that is due. */
    void fails(String what, Class<? extends RuntimeException> due, LongSupplier call) {
        String got;
        try {
            got = "answered " + call.getAsLong();
        } catch (RuntimeException e) {
            got = e.getClass() == due ? "" : "threw " + e.getClass().getSimpleName();
        }
        note(got.isEmpty(), what + " " + got + ", due is " + due.getSimpleName());
    }

    /** The call throws what is due, and all that can be asked is as it was before. */
    void failsInVain(String what, EscrowCounter x, Class<? extends RuntimeException> due, LongSupplier call) {
        String before = Picture.of(x);
        fails(what, due, call);
        same(what + " leaves all as it was", Picture.of(x), before);
    }

    void noSuch(String what, EscrowCounter x, LongSupplier call) {
        failsInVain(what, x, IndexOutOfBoundsException.class, call);
    }

    void badArgument(String what, EscrowCounter x, LongSupplier call) {
        failsInVain(what, x, IllegalArgumentException.class, call);
    }

    void badState(String what, EscrowCounter x, LongSupplier call) {
        failsInVain(what, x, IllegalStateException.class, call);
    }

    /** The call throws what is due, and leaves the scene no other than one on which it was not made. */
    void vain(String what, Supplier<EscrowCounter> scene, Class<? extends RuntimeException> due,
            ToLongFunction<EscrowCounter> call) {
        fails(what, due, () -> call.applyAsLong(scene.get()));
        String after = DeepPicture.of(() -> afterTrying(scene.get(), call));
        same(what + " leaves all as it was", after, DeepPicture.of(scene));
    }

    private static EscrowCounter afterTrying(EscrowCounter x, ToLongFunction<EscrowCounter> call) {
        try {
            call.applyAsLong(x);
        } catch (RuntimeException e) {
            return x;
        }
        return x;
    }

    /** The call answers what is due, and leaves the scene no other than one on which it was not made. */
    void idle(String what, Supplier<EscrowCounter> scene, long due, ToLongFunction<EscrowCounter> call) {
        same(what, call.applyAsLong(scene.get()), due);
        String after = DeepPicture.of(() -> afterTrying(scene.get(), call));
        same(what + " changes nothing", after, DeepPicture.of(scene));
    }

    int answers() {
        return right + wrong;
    }

    void add(Check part) {
        right += part.right;
        wrong += part.wrong;
    }

    void note(boolean isRight, String complaint) {
        if (isRight) {
            right++;
        } else {
            wrong++;
            System.out.println(title + ": " + complaint);
        }
    }

    void end() {
        System.out.println(title + ": " + right + " answers as due, " + wrong + " not");
        if (wrong != 0 || right == 0) {
            System.exit(1);
        }
    }
}
