/** Compares answers with what is due and ends a test with exit code 1 if one differed. */
final class Check {
    private final String test;
    private String sentence = "";
    private int lookedAhead = 0;
    private int looked = 0;
    private int wrong = 0;

    Check(String test) {
        this.test = test;
    }

    /** What is looked at from here on holds this sentence of the document, which stands at this place. */
    void sentence(String place, String words) {
        endSentence();
        sentence = place + ", \"" + words + "\"";
        lookedAhead = looked;
    }

    private void endSentence() {
        if (!sentence.isEmpty() && looked == lookedAhead) {
            wrong++;
            System.out.println(test + ": nothing was looked at for " + sentence);
        }
    }

    void due(String call, long want, long got) {
        looked++;
        if (want != got) {
            wrong++;
            tell(call, "" + got, "" + want);
        }
    }

    void same(String what, String want, String got) {
        looked++;
        if (!want.equals(got)) {
            wrong++;
            tell(what, got, want);
        }
    }

    private void tell(String call, String got, String want) {
        if (wrong <= 20) {
            String where = sentence.isEmpty() ? "" : " (" + sentence + ")";
            System.out.println(test + ": " + call + " answered " + got + ", due is " + want + where);
        }
    }

    /** A call that is not refused. */
    void fine(SmallFloats x, String call, long want, long got) {
        due(call, want, got);
        due("told() after " + call, 0, x.told());
    }

    /** A call that must be refused by this reason. */
    void refused(SmallFloats x, String call, long reason, long got) {
        due(call, reason, got);
        due("told() after " + call, reason, x.told());
    }

    void counts(SmallFloats x, String when, int inexact, int over, int invalid) {
        due("count(0) " + when, inexact, x.count(0));
        due("count(1) " + when, over, x.count(1));
        due("count(2) " + when, invalid, x.count(2));
    }

    void end() {
        endSentence();
        if (looked == 0) {
            System.out.println(test + ": nothing was looked at");
        }
        if (wrong > 0) {
            System.out.println(test + ": " + wrong + " of " + looked + " answers are not as due");
        }
        if (wrong > 0 || looked == 0) {
            System.exit(1);
        }
    }
}
