import java.util.function.Consumer;
import java.util.function.Supplier;

/** Compares answers with those that are due, and tells at the end whether one was wrong. */
final class Expect {
    private static int wrong = 0;
    private static String subject = "";

    private Expect() {
    }

    /** What the following answers are about; it is told with those that are wrong. */
    static void about(String newSubject) {
        subject = newSubject;
    }

    static void same(String what, long got, long due) {
        if (got != due) {
            tell(what, String.valueOf(got), String.valueOf(due));
        }
    }

    static void same(String what, boolean got, boolean due) {
        if (got != due) {
            tell(what, String.valueOf(got), String.valueOf(due));
        }
    }

    static void same(String what, String got, String due) {
        if (!got.equals(due)) {
            tell(what, got, due);
        }
    }

    /** To the last bit, as a double that was reached by way of a float differs in its last bits. */
    static void sameDouble(String what, double got, double due) {
        if (Double.compare(got, due) != 0) {
            tell(what, String.valueOf(got), String.valueOf(due));
        }
    }

    static void sameFloat(String what, float got, float due) {
        if (Float.compare(got, due) != 0) {
            tell(what, String.valueOf(got), String.valueOf(due));
        }
    }

    /** The call on a fresh market must throw just this exception and change nothing that can be asked. */
    static void refused(String what, Class<? extends RuntimeException> due, Supplier<SeesawMarket> fresh,
            Consumer<SeesawMarket> call) {
        SeesawMarket market = fresh.get();
        String before = Markets.picture(market);
        String thrown = "nothing";
        try {
            call.accept(market);
        } catch (RuntimeException exception) {
            thrown = exception.getClass().getSimpleName();
        }
        same(what + " throws", thrown, due.getSimpleName());
        same(what + " changes nothing", Markets.picture(market), before);
        same(what + " changes nothing that can come back", Markets.past(market), Markets.past(fresh.get()));
    }

    static void noIndex(String what, Supplier<SeesawMarket> fresh, Consumer<SeesawMarket> call) {
        refused(what, IndexOutOfBoundsException.class, fresh, call);
    }

    static void noArgument(String what, Supplier<SeesawMarket> fresh, Consumer<SeesawMarket> call) {
        refused(what, IllegalArgumentException.class, fresh, call);
    }

    static void noState(String what, Supplier<SeesawMarket> fresh, Consumer<SeesawMarket> call) {
        refused(what, IllegalStateException.class, fresh, call);
    }

    static void end() {
        if (wrong != 0) {
            System.out.println(wrong + " answers are not as due");
            System.exit(1);
        }
    }

    private static void tell(String what, String got, String due) {
        wrong++;
        System.out.println((subject.isEmpty() ? "" : subject + ": ") + what + ": answered " + got + ", due is " + due);
    }
}
