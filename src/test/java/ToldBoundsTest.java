/** Promises 23 and 24 sentence by sentence, and how many calls an object is used for. */
public final class ToldBoundsTest {
    private static final Check check = new Check("ToldBoundsTest");
    private static final int BAD = SmallFloats.BAD, STATE = SmallFloats.STATE;
    private static final int FULL = SmallFloats.FULL, INVALID = SmallFloats.INVALID;
    // Numbers of makeFormats(): one with a NONE, one with ENDLESS alone, one with neither.
    private static final int SIGNED = 0, NO_FRACTION = 1, PLAIN = 2;
    private static SmallFloats x;

    public static void main(String[] args) {
        constants();
        countByCode();
        countByCross();
        countByAct();
        countByFused();
        countByQuantise();
        countBySum();
        countByDot();
        countByNothingElse();
        overOfRefused();
        invalidOfRefused();
        countOfFormats();
        countOfNoSuchThing();
        toldOfANewObject();
        toldOfEachReason();
        toldOfTheLatest();
        toldAndCountDoNotTell();
        sameCallsSameAnswers();
        objectsShareNothing();
        fiveHundredAndTwelveCalls();
        check.end();
    }

    private static void makeFormats() {
        x = new SmallFloats();
        x.format(1, 3, 2, 3, true, 0);
        x.format(1, 3, 0, 3, true, 0);
        x.format(1, 2, 1, 1, true, 2);
    }

    private static void constants() {
        check.sentence("The public face", "BAD = -1, STATE = -2, FULL = -3, INVALID = -4, NONE = -9, NO = Long.MIN_VALUE");
        check.due("BAD", -1, SmallFloats.BAD);
        check.due("STATE", -2, SmallFloats.STATE);
        check.due("FULL", -3, SmallFloats.FULL);
        check.due("INVALID", -4, SmallFloats.INVALID);
        check.due("NONE", -9, SmallFloats.NONE);
        check.due("NO", Long.MIN_VALUE, SmallFloats.NO);
    }

    private static void countByCode() {
        makeFormats();
        check.sentence("Promise 23", "COUNTED by code()");
        check.fine(x, "1", 12, x.code(SIGNED, 1, 1, 0));
        check.counts(x, "exact", 0, 0, 0);
        check.fine(x, "1/3", 5, x.code(SIGNED, 1, 3, 0));
        check.counts(x, "inexact", 1, 0, 0);
        check.fine(x, "15", 28, x.code(SIGNED, 15, 1, 0));
        check.counts(x, "above GREAT", 2, 1, 0);
        check.refused(x, "q 0", BAD, x.code(SIGNED, 1, 0, 0));
        check.counts(x, "refused", 2, 1, 0);
    }

    private static void countByCross() {
        makeFormats();
        check.sentence("Promise 23", "COUNTED by cross()");
        check.fine(x, "1", 2, x.cross(SIGNED, 12, PLAIN, 0));
        check.counts(x, "exact", 0, 0, 0);
        check.fine(x, "5/4", 2, x.cross(SIGNED, 13, PLAIN, 0));
        check.counts(x, "inexact", 1, 0, 0);
        check.fine(x, "14", 7, x.cross(SIGNED, 27, PLAIN, 0));
        check.counts(x, "above GREAT", 2, 1, 0);
        check.refused(x, "NONE", INVALID, x.cross(SIGNED, 29, PLAIN, 0));
        check.counts(x, "refused", 2, 1, 1);
        check.refused(x, "mode 6", BAD, x.cross(SIGNED, 29, PLAIN, 6));
        check.counts(x, "BAD", 2, 1, 1);
    }

    private static void countByAct() {
        makeFormats();
        check.sentence("Promise 23", "COUNTED by act()");
        check.fine(x, "1 and 1", 16, x.act(SIGNED, 0, 12, 12, 0));
        check.counts(x, "exact", 0, 0, 0);
        check.fine(x, "1 by 3", 5, x.act(SIGNED, 3, 12, 18, 0));
        check.counts(x, "inexact", 1, 0, 0);
        check.fine(x, "14 times 14", 28, x.act(SIGNED, 2, 27, 27, 0));
        check.counts(x, "above GREAT", 2, 1, 0);
        check.fine(x, "0 by 0", 30, x.act(SIGNED, 3, 0, 0, 0));
        check.counts(x, "INVALID", 2, 1, 1);
        check.refused(x, "0 by 0 where there is no NONE", INVALID, x.act(PLAIN, 3, 0, 0, 0));
        check.counts(x, "refused", 2, 1, 2);
        check.fine(x, "NONE and 1", 30, x.act(SIGNED, 0, 29, 12, 0));
        check.fine(x, "1 by 0", 28, x.act(SIGNED, 3, 12, 0, 0));
        check.counts(x, "NONE and BEYOND", 2, 1, 2);
    }

    private static void countByFused() {
        makeFormats();
        check.sentence("Promise 23", "COUNTED by fused()");
        check.fine(x, "1 times 1 and 1", 16, x.fused(SIGNED, 12, 12, 12, 0));
        check.counts(x, "exact", 0, 0, 0);
        check.fine(x, "1/256 and 1", 12, x.fused(SIGNED, 1, 1, 12, 0));
        check.counts(x, "inexact", 1, 0, 0);
        check.fine(x, "14 and 1", 28, x.fused(SIGNED, 27, 12, 12, 0));
        check.counts(x, "above GREAT", 2, 1, 0);
        check.fine(x, "ENDLESS times 0", 30, x.fused(SIGNED, 28, 0, 12, 0));
        check.counts(x, "INVALID", 2, 1, 1);
        check.refused(x, "ENDLESS times 0 where there is no NONE", INVALID, x.fused(NO_FRACTION, 7, 0, 3, 0));
        check.counts(x, "refused", 2, 1, 2);
    }

    private static void countByQuantise() {
        makeFormats();
        check.sentence("Promise 23", "COUNTED by quantise()");
        Scene.fill(x, 0, SIGNED, 12, 13, 13, 27, 28);
        check.fine(x, "quantise", 1, x.quantise(1, 0, PLAIN, 0));
        check.counts(x, "two inexact, one above GREAT", 3, 1, 0);
        check.fine(x, "quantise once more", 1, x.quantise(1, 0, PLAIN, 0));
        check.counts(x, "as many again", 6, 2, 0);
        x.put(0, 4, 29);
        check.refused(x, "quantise of a NONE", INVALID, x.quantise(1, 0, PLAIN, 0));
        check.counts(x, "just that one", 6, 2, 1);
    }

    private static void countBySum() {
        makeFormats();
        check.sentence("Promise 23", "COUNTED by sum()");
        Scene.fill(x, 0, SIGNED, 16, 1, 1);
        check.fine(x, "exact", 16, x.sum(0, 0, false));
        check.counts(x, "one", 1, 0, 0);
        check.fine(x, "stepwise", 16, x.sum(0, 0, true));
        check.counts(x, "two", 3, 0, 0);
        Scene.fill(x, 0, SIGNED, 27, 27, 27);
        check.fine(x, "exact by IN", 27, x.sum(0, 2, false));
        check.counts(x, "above GREAT", 4, 1, 0);
        check.fine(x, "stepwise by IN", 27, x.sum(0, 2, true));
        check.counts(x, "above GREAT twice", 6, 3, 0);
        Scene.fill(x, 0, SIGNED, 28, 60);
        check.fine(x, "INVALID", 30, x.sum(0, 2, false));
        check.fine(x, "INVALID, stepwise", 30, x.sum(0, 2, true));
        check.counts(x, "INVALID", 6, 3, 2);
    }

    private static void countByDot() {
        makeFormats();
        check.sentence("Promise 23", "COUNTED by dot()");
        Scene.fill(x, 0, SIGNED, 1, 1);
        check.fine(x, "exact", 0, x.dot(0, 0, 0, false));
        check.counts(x, "one", 1, 0, 0);
        check.fine(x, "stepwise", 0, x.dot(0, 0, 0, true));
        check.counts(x, "two", 3, 0, 0);
        Scene.fill(x, 0, SIGNED, 27, 27);
        check.fine(x, "exact by IN", 27, x.dot(0, 0, 2, false));
        check.counts(x, "above GREAT", 4, 1, 0);
        check.fine(x, "stepwise by IN", 27, x.dot(0, 0, 2, true));
        check.counts(x, "above GREAT thrice", 7, 4, 0);
        Scene.fill(x, 0, SIGNED, 28, 28);
        Scene.fill(x, 1, SIGNED, 0, 0);
        check.fine(x, "INVALID", 30, x.dot(0, 1, 0, false));
        check.counts(x, "INVALID", 7, 4, 1);
        check.fine(x, "INVALID, stepwise", 30, x.dot(0, 1, 0, true));
        check.counts(x, "INVALID (each that was met)", 7, 4, 3);
    }

    private static void countByNothingElse() {
        makeFormats();
        check.sentence("Promise 23", "COUNTED by code(), cross(), act(), fused(), quantise(), sum(), dot() (not table())");
        Scene.fill(x, 0, SIGNED, 28, 60, 1, 27);
        x.about(SIGNED, 3);
        x.kind(SIGNED, 29, 0);
        x.units(SIGNED, 29);
        x.next(SIGNED, 27, true);
        x.order(SIGNED, 29, 60);
        x.numbers(SIGNED, -5, 5);
        x.at(0, 0);
        x.packed(0, 0);
        x.worst(0, 0, 2);
        x.table(SIGNED, 3, 0);
        x.lookup(0, 0);
        x.lookup(12, 18);
        x.lookup(27, 1);
        x.table(PLAIN, 3, 0);
        x.lookup(0, 0);
        check.counts(x, "after all others", 0, 0, 0);
    }

    private static void overOfRefused() {
        makeFormats();
        check.sentence("Promise 23", "1 OVER (of those that were not refused alone)");
        Scene.fill(x, 0, NO_FRACTION, 6, 6, 15);
        check.refused(x, "8 and 8 and minus ENDLESS", INVALID, x.sum(0, 0, true));
        check.counts(x, "of a refused sum", 0, 0, 1);
        check.fine(x, "8 and 8", 7, x.act(NO_FRACTION, 0, 6, 6, 0));
        check.counts(x, "of an act", 1, 1, 1);
        Scene.fill(x, 1, SIGNED, 27, 13, 29);
        check.refused(x, "quantise", INVALID, x.quantise(2, 1, PLAIN, 0));
        check.counts(x, "of a refused quantise", 1, 1, 2);
        Scene.fill(x, 1, NO_FRACTION, 6, 6, 8);
        check.refused(x, "dot", INVALID, x.dot(0, 1, 0, true));
        check.counts(x, "of a refused dot", 1, 1, 3);
        x.put(1, 2, 3);
        check.refused(x, "dot by a later INVALID", INVALID, x.dot(0, 1, 0, true));
        check.counts(x, "of a refused dot", 1, 1, 4);
    }

    private static void invalidOfRefused() {
        makeFormats();
        check.sentence("Promise 23", "2 INVALID (each that was met; of a call that was refused just that one)");
        Scene.fill(x, 0, NO_FRACTION, 7, 7, 7);
        Scene.fill(x, 1, NO_FRACTION, 0, 8, 0);
        check.refused(x, "three INVALID ones, exact", INVALID, x.dot(0, 1, 0, false));
        check.counts(x, "just one", 0, 0, 1);
        check.refused(x, "three INVALID ones, stepwise", INVALID, x.dot(0, 1, 0, true));
        check.counts(x, "just one", 0, 0, 2);
        Scene.fill(x, 2, SIGNED, 29, 30, 31);
        check.refused(x, "three NONE ones", INVALID, x.quantise(3, 2, PLAIN, 0));
        check.counts(x, "just one", 0, 0, 3);
        Scene.fill(x, 2, SIGNED, 28, 28, 28);
        Scene.fill(x, 3, SIGNED, 0, 32, 0);
        check.fine(x, "three INVALID ones, not refused", 30, x.dot(2, 3, 0, true));
        check.counts(x, "each", 0, 0, 6);
        check.refused(x, "BAD", BAD, x.dot(2, 3, 6, true));
        check.refused(x, "STATE", STATE, x.dot(2, 1, 0, true));
        check.counts(x, "of no other refusal", 0, 0, 6);
    }

    private static void countOfFormats() {
        x = new SmallFloats();
        check.sentence("Promise 23", "3 FORMATS");
        check.due("count(3)", 0, x.count(3));
        for (int i = 1; i <= 10; i++) {
            check.fine(x, "format " + i, i - 1, x.format(1, 2, 2, i, true, 0));
            check.due("count(3)", i, x.count(3));
        }
        check.refused(x, "an eleventh", FULL, x.format(1, 2, 2, 11, true, 0));
        check.refused(x, "a BAD one", BAD, x.format(1, 2, 2, 16, true, 0));
        check.fine(x, "one that is there", 4, x.format(1, 2, 2, 5, true, 0));
        check.due("count(3)", 10, x.count(3));
    }

    private static void countOfNoSuchThing() {
        makeFormats();
        check.sentence("Promise 23", "BAD");
        for (int what : new int[] {-1, 4, Integer.MIN_VALUE, Integer.MAX_VALUE}) {
            check.due("count(" + what + ")", BAD, x.count(what));
        }
        check.due("count(0)", 0, x.count(0));
        check.due("count(3)", 3, x.count(3));
    }

    private static void toldOfANewObject() {
        check.sentence("Promise 24", "What the latest call was refused by; 0");
        x = new SmallFloats();
        check.due("told()", 0, x.told());
        check.due("told() again", 0, x.told());
        check.due("count(0)", 0, x.count(0));
        check.due("told()", 0, x.told());
    }

    private static void toldOfEachReason() {
        makeFormats();
        check.sentence("Promise 24", "What the latest call was refused by");
        check.refused(x, "BAD", BAD, x.about(-1, 0));
        check.refused(x, "STATE", STATE, x.lookup(0, 0));
        check.refused(x, "INVALID", INVALID, x.act(PLAIN, 3, 0, 0, 0));
        for (int bias = 4; bias <= 10; bias++) {
            check.fine(x, "format", bias - 1, x.format(1, 2, 2, bias, true, 0));
        }
        check.refused(x, "FULL", FULL, x.format(1, 2, 2, 11, true, 0));
        check.due("units of no code", SmallFloats.NO, x.units(0, 64));
        check.due("told()", BAD, x.told());
    }

    private static void toldOfTheLatest() {
        makeFormats();
        check.sentence("Promise 24", "What the latest call was refused by; 0 (of answers that are below 0, too)");
        check.refused(x, "BAD", BAD, x.about(-1, 0));
        check.fine(x, "the NONE of TOP 2", SmallFloats.NONE, x.about(PLAIN, 3));
        check.refused(x, "BAD", BAD, x.at(0, 0));
        check.fine(x, "the next one above GREAT", SmallFloats.NONE, x.next(PLAIN, 7, true));
        check.refused(x, "BAD", BAD, x.next(SIGNED, 29, true));
        check.fine(x, "minus 1 and 1", -1, x.order(SIGNED, 44, 12));
        check.refused(x, "STATE", STATE, x.lookup(0, 0));
        check.fine(x, "minus 2 units", -2, x.units(SIGNED, 33));
        Scene.fill(x, 0, SIGNED, 12);
        check.refused(x, "BAD", BAD, x.at(0, 1));
        check.fine(x, "they differ nowhere", SmallFloats.NONE, x.worst(0, 0, 0));
        check.fine(x, "a table", 256, x.table(PLAIN, 3, 0));
        check.refused(x, "BAD", BAD, x.lookup(16, 0));
        check.fine(x, "a place of what is INVALID", -1, x.lookup(0, 0));
    }

    private static void toldAndCountDoNotTell() {
        makeFormats();
        check.sentence("Promise 24", "the latest call (but told(), count())");
        check.refused(x, "INVALID", INVALID, x.act(PLAIN, 3, 0, 0, 0));
        for (int what = -1; what <= 4; what++) {
            x.count(what);
            check.due("told() after count(" + what + ")", INVALID, x.told());
            check.due("told() after told()", INVALID, x.told());
        }
        check.fine(x, "a call that is fine", 6, x.about(SIGNED, 0));
        x.count(9);
        check.due("told() after a count of no such thing", 0, x.told());
    }

    /** The calls of a scene, as numbers, so that two objects and two runs can be compared. */
    private static String answers(SmallFloats y) {
        StringBuilder text = new StringBuilder(Scene.seen(y));
        for (int code = 0; code < 64; code += 5) {
            for (int mode = 0; mode < 6; mode++) {
                text.append(' ').append(y.act(SIGNED, code % 4, code, 63 - code, mode));
            }
        }
        return text.append(Scene.counts(y)).toString();
    }

    private static void sameCallsSameAnswers() {
        check.sentence("What it is", "each result is the exact one rounded once (whatever was asked before)");
        SmallFloats first = Scene.made();
        SmallFloats second = Scene.made();
        check.same("a second object", answers(first), answers(second));
        check.due("an act", 5, first.act(SIGNED, 3, 12, 18, 0));
        first.act(SIGNED, 2, 27, 27, 4);
        first.sum(0, 3, true);
        check.due("the same act", 5, first.act(SIGNED, 3, 12, 18, 0));
    }

    private static void objectsShareNothing() {
        check.sentence("Promise 1", "No FORMATS; ROWS are not there (whatever other objects have)");
        SmallFloats first = Scene.made();
        SmallFloats second = new SmallFloats();
        check.due("count(3)", 0, second.count(3));
        check.counts(second, "of another one", 0, 0, 0);
        check.refused(second, "a row", BAD, second.at(0, 0));
        check.refused(second, "a table", STATE, second.lookup(0, 0));
        check.due("told() of the first", 0, first.told());
        check.fine(second, "its own first format", 0, second.format(0, 2, 2, 0, true, 2));
        check.fine(second, "its own row", 1, second.row(0, 0, 1));
        check.fine(second, "its own code", 0, second.put(0, 0, 15));
        check.fine(first, "the first one's code", 12, first.at(0, 0));
    }

    private static void fiveHundredAndTwelveCalls() {
        check.sentence("What it is", "An object is used for at most 512 calls after it has been made");
        x = new SmallFloats();
        check.due("call 1", 0, x.format(1, 3, 2, 3, true, 0));
        for (int call = 2; call <= 510; call++) {
            check.due("call " + call, 5, x.code(0, 1, 3, 0));
        }
        check.due("call 511", 509, x.count(0));
        check.due("call 512", 28, x.act(0, 2, 27, 27, 0));
    }
}
