/** Compares answers with those that are due, and ends a test's run. */
final class Check {
    interface Call {
        void run();
    }

    private static int right = 0;
    private static int wrong = 0;
    private static String about = "";

    private Check() {
    }

    /** What the next checks are about: it stands before each of them that does not hold. */
    static void about(String subject) {
        about = subject.isEmpty() ? "" : subject + ": ";
    }

    /** The number of checks so far. */
    static int made() {
        return right + wrong;
    }

    static void is(String what, long got, long due) {
        note(got == due, what, String.valueOf(got), String.valueOf(due));
    }

    static void is(String what, boolean got, boolean due) {
        note(got == due, what, String.valueOf(got), String.valueOf(due));
    }

    static void is(String what, double got, double due) {
        note(got == due, what, String.valueOf(got), String.valueOf(due));
    }

    static void is(String what, String got, String due) {
        note(got.equals(due), what, got, due);
    }

    /** The call throws just this exception: not one of a class below it, as the machine's are. */
    static void throwing(String what, Class<? extends RuntimeException> due, Call call) {
        String got = "nothing";
        try {
            call.run();
        } catch (RuntimeException e) {
            got = e.getClass().getName();
        }
        note(got.equals(due.getName()), what, got, due.getName());
    }

    /** The call throws nothing. */
    static void passing(String what, Call call) {
        String got = "nothing";
        try {
            call.run();
        } catch (RuntimeException e) {
            got = e.getClass().getName();
        }
        note(got.equals("nothing"), what + " throws", got, "nothing");
    }

    private static void note(boolean holds, String what, String got, String due) {
        if (holds) {
            right++;
            return;
        }
        wrong++;
        if (wrong <= 50) {
            System.out.println("WRONG " + about + what + ": got " + got + ", due is " + due);
        }
    }

    static boolean allRight() {
        return wrong == 0;
    }

    static void end() {
        System.out.println(right + " checks hold, " + wrong + " do not");
        if (wrong > 0 || right == 0) {
            System.exit(1);
        }
    }
}
