/** Counts and prints what is not as due. */
final class Check {
    interface Call {
        Object run();
    }

    private static int wrong = 0;

    private Check() {
    }

    static void same(String what, Object got, Object due) {
        Object one = got instanceof Integer ? Long.valueOf((Integer) got) : got;
        Object two = due instanceof Integer ? Long.valueOf((Integer) due) : due;
        if (!one.equals(two)) {
            wrong++;
            System.out.println(what + " answered " + got + ", due is " + due);
        }
    }

    /** The answer, or the name of the exception that was thrown. */
    static Object answer(Call call) {
        try {
            return call.run();
        } catch (RuntimeException e) {
            return "throws " + e.getClass().getSimpleName();
        }
    }

    /** The call throws just this exception, and changes nothing. */
    static void refused(FactorMatch x, String what, Class<? extends RuntimeException> due, Call call) {
        long before = x.digest();
        same(what, answer(call), "throws " + due.getSimpleName());
        same(what + ", digest afterwards", x.digest(), before);
    }

    static void end() {
        System.out.println(wrong == 0 ? "all as due" : wrong + " not as due");
        if (wrong != 0) {
            System.exit(1);
        }
    }
}
