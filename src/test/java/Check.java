/** Compares answers with what is due and ends a test with exit code 1 if one differed. */
final class Check {
    private final String test;
    private int looked = 0;
    private int wrong = 0;

    Check(String test) {
        this.test = test;
    }

    void due(String call, long want, long got) {
        looked++;
        if (want != got) {
            wrong++;
            if (wrong <= 20) {
                System.out.println(test + ": " + call + " answered " + got + ", due is " + want);
            }
        }
    }

    /** A call that must be refused by this reason. */
    void refused(SmallFloats x, String call, long reason, long got) {
        due(call, reason, got);
        due("told() after " + call, reason, x.told());
    }

    void counts(SmallFloats x, String when, int inexact, int over, int invalid) {
        due("count(0) " + when, inexact, x.count(0));
        due("count(1) " + when, over, x.count(1));
        due("count(2) " + when, invalid, x.count(2));
    }

    void end() {
        if (looked == 0) {
            System.out.println(test + ": nothing was looked at");
        }
        if (wrong > 0) {
            System.out.println(test + ": " + wrong + " of " + looked + " answers are not as due");
        }
        if (wrong > 0 || looked == 0) {
            System.exit(1);
        }
    }
}
