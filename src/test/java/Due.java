import java.util.function.LongSupplier;

/** Counts and prints the answers that are not the ones that are due. */
final class Due {
    private static int wrong = 0;

    private Due() {
    }

    static void same(String what, long got, long due) {
        if (got != due) {
            tell(what + " answered " + got + ", due is " + due);
        }
    }

    static void same(String what, String got, String due) {
        if (!got.equals(due)) {
            tell(what + " answered " + got + ", due is " + due);
        }
    }

    static void yes(String what, boolean holds) {
        if (!holds) {
            tell(what + " does not hold");
        }
    }

    static void thrown(String what, Class<? extends RuntimeException> due, Runnable call) {
        same(what, answer(call), "throws." + due.getSimpleName());
    }

    static void taken(String what, Runnable call) {
        same(what, answer(call), "0");
    }

    static void refused(String what, Runnable call) {
        thrown(what, IllegalArgumentException.class, call);
    }

    static void noIndex(String what, Runnable call) {
        thrown(what, IndexOutOfBoundsException.class, call);
    }

    static void noState(String what, Runnable call) {
        thrown(what, IllegalStateException.class, call);
    }

    static void unsupported(String what, Runnable call) {
        thrown(what, UnsupportedOperationException.class, call);
    }

    static String answer(Runnable call) {
        return answer(() -> {
            call.run();
            return 0;
        });
    }

    static String answer(LongSupplier call) {
        try {
            return Long.toString(call.getAsLong());
        } catch (RuntimeException e) {
            return "throws." + e.getClass().getSimpleName();
        }
    }

    static void tell(String text) {
        wrong++;
        if (wrong <= 50) {
            System.out.println(text);
        }
    }

    static void end() {
        System.out.println(wrong == 0 ? "all answers are as due" : wrong + " answers are not as due");
        if (wrong != 0) {
            System.exit(1);
        }
    }
}
