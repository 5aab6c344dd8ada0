/** What the tests of the project share: answers that are due, exceptions that are due, and the end. */
final class Check {
    private static int right = 0;
    private static int wrong = 0;

    private Check() {
    }

    static void due(String call, Object got, Object want) {
        if (got.equals(want)) {
            right++;
        } else {
            wrong++;
            System.out.println(call + " answered " + got + ", due is " + want);
        }
    }

    /** Of two long texts, it tells only where they part. */
    static void like(String call, String got, String want) {
        int from = 0;
        while (from < got.length() && from < want.length() && got.charAt(from) == want.charAt(from)) {
            from++;
        }
        int start = Math.max(0, from - 60);
        due(call, got.substring(start, Math.min(got.length(), from + 60)),
                want.substring(start, Math.min(want.length(), from + 60)));
    }

    static void fails(String call, Class<? extends RuntimeException> want, Runnable calls) {
        String got = "nothing";
        try {
            calls.run();
        } catch (RuntimeException e) {
            got = e.getClass().getSimpleName();
        }
        due(call + " throws", got, want.getSimpleName());
    }

    static void end() {
        System.out.println(right + " answers are as due, " + wrong + " are not");
        if (wrong != 0 || right == 0) {
            System.exit(1);
        }
    }
}
