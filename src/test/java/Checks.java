/** What the tests have in common: an answer that is not due is printed, and end() tells it by the exit code. */
final class Checks {
    interface Call {
        void run();
    }

    static final Class<? extends RuntimeException> INDEX = IndexOutOfBoundsException.class;
    static final Class<? extends RuntimeException> STATE = IllegalStateException.class;
    static final Class<? extends RuntimeException> ARGUMENT = IllegalArgumentException.class;

    private static int wrong;

    private Checks() {
    }

    static void due(String call, long got, long want) {
        if (got != want) {
            tell(call + " answered " + got + ", due is " + want);
        }
    }

    static void due(String call, boolean got, boolean want) {
        if (got != want) {
            tell(call + " answered " + got + ", due is " + want);
        }
    }

    static void dueShare(String call, double got, double want) {
        if (Double.doubleToLongBits(got) != Double.doubleToLongBits(want)) {
            tell(call + " answered " + got + ", due is " + want);
        }
    }

    static void dueSame(String call, Object got, Object want) {
        if (!want.equals(got)) {
            tell(call + " answered " + got + ", due is " + want);
        }
    }

    /** The call throws just this exception, and changes nothing that the digest tells. Three calls of the object. */
    static void dueThrows(AlibiDeals x, String call, Class<? extends RuntimeException> want, Call run) {
        long before = x.digest();
        Class<?> got = null;
        try {
            run.run();
        } catch (RuntimeException e) {
            got = e.getClass();
        }
        if (got != want) {
            tell(call + " threw " + got + ", due is " + want);
        }
        due(call + ", digest() behind it", x.digest(), before);
    }

    static void tell(String what) {
        wrong++;
        if (wrong <= 50) {
            System.out.println(what);
        }
    }

    static void type(AlibiDeals x, String text) {
        for (int i = 0; i < text.length(); i++) {
            x.append(text.charAt(i));
        }
    }

    static int works(AlibiDeals x, String text) {
        type(x, text);
        return x.work();
    }

    /** A new object on which these works are done, all of them. */
    static AlibiDeals with(String works) {
        AlibiDeals x = new AlibiDeals();
        if (!works.isEmpty()) {
            due("work() of " + works, works(x, works), works.split(";").length);
        }
        return x;
    }

    static void end() {
        System.out.println(wrong == 0 ? "all answers are as due" : wrong + " answers are not as due");
        if (wrong != 0) {
            System.exit(1);
        }
    }
}
