import java.util.function.IntSupplier;

/** Compares answers with those that are due, and counts what is wrong. */
final class Due {
    static int wrong;
    static int asked;

    static final String PLACE = "IndexOutOfBoundsException";
    static final String RANGE = "IllegalArgumentException";
    static final String STATE = "IllegalStateException";

    private Due() {
    }

    static void is(String call, int got, int due) {
        asked++;
        if (got != due) {
            wrong++;
            System.out.println(call + " answered " + got + ", due is " + due);
        }
    }

    static void holds(String call, boolean got) {
        asked++;
        if (!got) {
            wrong++;
            System.out.println(call + " does not hold");
        }
    }

    static void fails(String call, String due, IntSupplier supplier) {
        asked++;
        String got;
        try {
            got = "the answer " + supplier.getAsInt();
        } catch (RuntimeException e) {
            got = e.getClass().getSimpleName();
        }
        if (!got.equals(due)) {
            wrong++;
            System.out.println(call + " gave " + got + ", due is " + due);
        }
    }

    static void end(String name) {
        System.out.println(wrong == 0 ? name + ": " + asked + " answers are as due" : name + ": " + wrong + " are not as due");
        if (wrong != 0) {
            System.exit(1);
        }
    }
}
