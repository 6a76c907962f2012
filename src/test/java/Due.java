/** What the tests share: answers that are due, and calls that are to be refused. */
final class Due {
    interface Call {
        long now();
    }

    private static int asked = 0;
    private static int wrong = 0;

    private Due() {
    }

    static void same(String what, long got, long want) {
        asked++;
        if (got != want) {
            tell(what + " answered " + got + ", due is " + want);
        }
    }

    static void same(String what, boolean got, boolean want) {
        same(what, got ? 1 : 0, want ? 1 : 0);
    }

    static void same(String what, String got, String want) {
        asked++;
        if (!want.equals(got)) {
            tell(what + " answered \"" + got + "\", due is \"" + want + "\"");
        }
    }

    /** The call has to throw just that exception and to change nothing that can be seen. */
    static void refused(String what, Openline x, Class<? extends RuntimeException> kind, Call call) {
        asked++;
        String before = state(x);
        RuntimeException thrown = thrown(call);
        String got = thrown == null ? "nothing" : thrown.getClass().getSimpleName();
        if (!got.equals(kind.getSimpleName())) {
            tell(what + " threw " + got + ", due is " + kind.getSimpleName());
        } else if (!isByThrow(thrown)) {
            tell(what + ": the machine or the library threw " + got);
        }
        if (!state(x).equals(before)) {
            tell(what + " was refused and changed something");
        }
    }

    static String thrownBy(Call call) {
        RuntimeException thrown = thrown(call);
        return thrown == null ? "nothing" : thrown.getClass().getSimpleName();
    }

    private static RuntimeException thrown(Call call) {
        try {
            call.now();
            return null;
        } catch (RuntimeException e) {
            return e;
        }
    }

    /** Whether a throw statement of Openline threw it, and not the machine or the library. */
    static boolean isByThrow(Throwable thrown) {
        StackTraceElement[] trace = thrown.getStackTrace();
        // the machine leaves the trace out where it throws again and again
        return trace.length != 0 && trace[0].getClassName().equals("Openline")
            && (trace[0].getMethodName().startsWith("demand") || trace[0].getMethodName().endsWith("At"));
    }

    static void tell(String line) {
        wrong++;
        System.out.println(line);
    }

    static void end(String name) {
        System.out.println(name + ": " + asked + " answers, " + wrong + " not as due");
        if (wrong != 0 || asked == 0) {
            System.exit(1);
        }
    }

    /** All that digest() counts, and both texts. */
    static String state(Openline x) {
        return x.digest() + " " + x.trace() + " " + x.text();
    }
}
