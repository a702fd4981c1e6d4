import java.util.ArrayList;
import java.util.List;
import java.util.function.ToIntFunction;

/**
 * "Refused, and nothing changes, the first of these: BAD, STATE, FULL." Each refusal of each call, in states with nothing
 * and with all kept: two objects are made alike, one of them gets the refused call, and then both are asked for all
 * that there is till nothing of it is left. The same for calls that only ask.
 */
public final class RefusalsTest {
    private static final int BAD = AlgebraLaws.BAD;
    private static final int STATE = AlgebraLaws.STATE;
    private static final int FULL = AlgebraLaws.FULL;
    private static final int[] NEVER = {-2, -3, -100, 16, 17, 1000, Integer.MIN_VALUE, Integer.MAX_VALUE};
    private static final String FAR_TOO_MANY = "n3;f120220000;";
    /** One of each SIZE, and some of which there are too many terms. */
    private static final String[] TEXTS = {
        "n1;", "", "n2;f0001;g10;", "n3;f012120201;g021;", FAR_TOO_MANY, "n4;f0123123023013012;g0321;",
        "n4;f0000301000330000;g0113;"};

    private final Checks checks = new Checks();

    public static void main(String[] args) {
        RefusalsTest test = new RefusalsTest();
        test.badAndNothingChanges();
        test.badOfElementsAndNothingChanges();
        test.stateAndNothingChanges();
        test.fullAndNothingChanges();
        test.faultAndNothingChanges();
        test.badAheadOfState();
        test.badAheadOfFull();
        test.whatOnlyAsksChangesNothing();
        test.fiveHundredAndTwelveCalls();
        test.checks.end();
    }

    /** Nothing kept but the tables. */
    private static AlgebraLaws bare(String text) {
        return Checks.of(text);
    }

    /** Each thing is there, but none is full. */
    private static AlgebraLaws used(String text) {
        AlgebraLaws a = Checks.of(text);
        change(a, 3);
        a.keep(1);
        change(a, 2);
        seeWhatIs(a, 2);
        Checks.types(a, "n3;g02");
        return a;
    }

    /** Each thing is full. */
    private static AlgebraLaws full(String text) {
        AlgebraLaws a = Checks.of(text);
        a.keep(0);
        change(a, 5);
        a.keep(1);
        change(a, 15);
        seeWhatIs(a, 6);
        Checks.types(a, "n3; f012 120 201; g021; f222 120 201; " + " ".repeat(22));
        return a;
    }

    private static void change(AlgebraLaws a, int many) {
        int n = a.count(0);
        for (int i = 0; i < many && n > 1; i++) {
            int x = i % n;
            int y = i / n % (n + 1) - 1;
            int is = y < 0 ? a.g(x) : a.f(x, y);
            a.sets(x, y, (is + 1) % n);
        }
    }

    /** Some place mostly fits to it, so that unseen() tells if another number came in between. */
    private static void seeWhatIs(AlgebraLaws a, int often) {
        int closed = a.count(1);
        for (int i = 0; i < often; i++) {
            a.sees(closed);
        }
    }

    private static AlgebraLaws inState(int state, String text) {
        return state == 0 ? bare(text) : state == 1 ? used(text) : full(text);
    }

    /** Asks for all, and takes all away on the way; some 220 calls, as the object may have had 250 before. */
    private static List<Integer> allOf(AlgebraLaws a) {
        List<Integer> all = new ArrayList<>();
        for (int what = 0; what < 9; what++) {
            all.add(a.count(what));
        }
        values(a, all);
        all.add(a.unseen());
        for (int i = 1; i <= 13; i++) {
            all.add(a.undo());
            if (i % 3 == 1) {
                values(a, all);
            }
        }
        for (int image = 0; image < 2; image++) {
            all.add(a.back(image));
            values(a, all);
        }
        all.add(a.unseen());
        all.add(a.forget());
        all.add(a.type('1'));
        all.add(a.type(';'));
        all.add(a.tables());
        values(a, all);
        return all;
    }

    private static void values(AlgebraLaws a, List<Integer> all) {
        int n = a.count(0);
        for (int x = 0; x < n; x++) {
            all.add(a.g(x));
            for (int y = 0; y < n; y++) {
                all.add(a.f(x, y));
            }
        }
    }

    private void refused(String what, int due, ToIntFunction<AlgebraLaws> call, AlgebraLaws one, AlgebraLaws other) {
        checks.due(what, call.applyAsInt(one), due);
        checks.due(what + ", again", call.applyAsInt(one), due);
        checks.isTrue(what + ", nothing changes", allOf(one).equals(allOf(other)));
    }

    private void refusedInAllStates(String what, int due, ToIntFunction<AlgebraLaws> call) {
        for (String text : TEXTS) {
            refusedInAllStates(what, due, call, text);
        }
    }

    private void refusedInAllStates(String what, int due, ToIntFunction<AlgebraLaws> call, String text) {
        for (int state = 0; state < 3; state++) {
            refused(what + " of '" + text + "'", due, call, inState(state, text), inState(state, text));
        }
    }

    private void badAndNothingChanges() {
        checks.sentence("Refused, and nothing changes: BAD (a number is not as told), numbers that are never as told");
        for (int n : NEVER) {
            if (n < 0 || n > 255) {
                refusedInAllStates("type " + n, BAD, a -> a.type(n));
            }
            if (n < 0 || n > 16) {
                refusedInAllStates("sees " + n, BAD, a -> a.sees(n));
            }
            if (n < 0) {
                refusedInAllStates("closed " + n, BAD, a -> a.closed(n));
                refusedInAllStates("congruence " + n, BAD, a -> a.congruence(n));
            }
            refusedInAllStates("law " + n, BAD, a -> a.law(n));
            refusedInAllStates("change " + n, BAD, a -> a.change(n));
            refusedInAllStates("pair " + n, BAD, a -> a.pair(0, 0, n));
            refusedInAllStates("free " + n, BAD, a -> a.free(n, 0));
            refusedInAllStates("free of 2, " + n, BAD, a -> a.free(2, n));
            refusedInAllStates("term " + n, BAD, a -> a.term(n));
            refusedInAllStates("keep " + n, BAD, a -> a.keep(n));
            refusedInAllStates("back " + n, BAD, a -> a.back(n));
            refusedInAllStates("count " + n, BAD, a -> a.count(n));
        }
        refusedInAllStates("type -1", BAD, a -> a.type(-1));
        refusedInAllStates("type 256", BAD, a -> a.type(256));
        refusedInAllStates("sees -1", BAD, a -> a.sees(-1));
        refusedInAllStates("sees 17", BAD, a -> a.sees(17));
        refusedInAllStates("keep -1", BAD, a -> a.keep(-1));
        refusedInAllStates("keep 2", BAD, a -> a.keep(2));
        refusedInAllStates("back -1", BAD, a -> a.back(-1));
        refusedInAllStates("back 2", BAD, a -> a.back(2));
    }

    private void badOfElementsAndNothingChanges() {
        checks.sentence("Refused, and nothing changes: BAD (there is no such thing), by SIZE and by what there is");
        for (String text : TEXTS) {
            int size = Checks.of(text).count(0);
            for (int n : new int[] {-1, size, size + 1, 4, 16, Integer.MIN_VALUE, Integer.MAX_VALUE}) {
                refusedInAllStates("f, x " + n, BAD, a -> a.f(n, 0), text);
                refusedInAllStates("f, y " + n, BAD, a -> a.f(0, n), text);
                refusedInAllStates("g " + n, BAD, a -> a.g(n), text);
                refusedInAllStates("sets, x " + n, BAD, a -> a.sets(n, 0, 0), text);
                refusedInAllStates("sets g, x " + n, BAD, a -> a.sets(n, -1, 0), text);
                refusedInAllStates("sets, c " + n, BAD, a -> a.sets(0, 0, n), text);
                refusedInAllStates("sets g, c " + n, BAD, a -> a.sets(0, -1, n), text);
                refusedInAllStates("principal, x " + n, BAD, a -> a.principal(n, 0), text);
                refusedInAllStates("principal, y " + n, BAD, a -> a.principal(0, n), text);
                if (n != -1) {
                    refusedInAllStates("sets, y " + n, BAD, a -> a.sets(0, n, 0), text);
                }
            }
            refusedInAllStates("sets, y -2", BAD, a -> a.sets(0, -2, 0), text);
            refusedInAllStates("made by too many", BAD, a -> a.made(1 << size), text);
            refusedInAllStates("pair, a", BAD, a -> a.pair(a.count(2), 0, 0), text);
            refusedInAllStates("pair, b", BAD, a -> a.pair(0, a.count(2), 1), text);
            if (size == 4) {
                refusedInAllStates("term of four", BAD, a -> a.term(0), text);
                refusedInAllStates("majority of four", BAD, a -> a.term(1), text);
            }
        }
    }

    private void stateAndNothingChanges() {
        checks.sentence("Refused, and nothing changes: STATE (as told)");
        refusedInAllStates("sets what it is", STATE, a -> a.sets(0, 0, a.f(0, 0)));
        refusedInAllStates("sets what g is", STATE, a -> a.sets(0, -1, a.g(0)));
        for (String text : TEXTS) {
            refused("undo, none", STATE, AlgebraLaws::undo, bare(text), bare(text));
            refused("back 0, none kept", STATE, a -> a.back(0), bare(text), bare(text));
            refused("back 1, none kept", STATE, a -> a.back(1), bare(text), bare(text));
            refused("back 0, only 1 kept", STATE, a -> a.back(0), used(text), used(text));
            AlgebraLaws one = full(text);
            AlgebraLaws other = full(text);
            for (int i = 0; i < 12; i++) {
                one.undo();
                other.undo();
            }
            refused("undo, none more", STATE, AlgebraLaws::undo, one, other);
        }
    }

    private void fullAndNothingChanges() {
        checks.sentence("Refused, and nothing changes: FULL");
        for (String text : TEXTS) {
            refused("the 61st letter", FULL, a -> a.type(' '), full(text), full(text));
            refused("the seventh seen", FULL, a -> a.sees(9), full(text), full(text));
        }
        for (int what = 0; what < 2; what++) {
            int asked = what;
            refused("free, bare", FULL, a -> a.free(2, asked), bare(FAR_TOO_MANY), bare(FAR_TOO_MANY));
            refused("term, bare", FULL, a -> a.term(asked), bare(FAR_TOO_MANY), bare(FAR_TOO_MANY));
            refused("free of four, bare", FULL, a -> a.free(2, asked), bare(TEXTS[6]), bare(TEXTS[6]));
            AlgebraLaws one = fullBefore(FAR_TOO_MANY);
            AlgebraLaws other = fullBefore(FAR_TOO_MANY);
            refused("free, full", FULL, a -> a.free(2, asked), one, other);
            refused("term, full", FULL, a -> a.term(asked), fullBefore(FAR_TOO_MANY), fullBefore(FAR_TOO_MANY));
        }
    }

    /** Each thing is full, and f, g are as told. */
    private static AlgebraLaws fullBefore(String text) {
        AlgebraLaws a = full(text);
        a.back(0);
        for (int i = 0; i < 12; i++) {
            a.sets(2, 2, i % 2 == 0 ? 1 : 0);
        }
        return a;
    }

    private void faultAndNothingChanges() {
        checks.sentence("promise 4: -10 less FAULT: nothing changes");
        String[] texts = {"n5;", "x", "n3;f012120201;g021;x", "n4;f0000000000000000;g0000", "g1", "n1;f0;g0;n", "f0000;f1"};
        int[] faults = {1, 0, 19, 26, 2, 9, 8};
        for (int i = 0; i < texts.length; i++) {
            String wrong = texts[i];
            for (String text : TEXTS) {
                AlgebraLaws one = used(text);
                AlgebraLaws other = used(text);
                one.clear();
                other.clear();
                Checks.types(one, wrong);
                Checks.types(other, wrong);
                refused("'" + wrong + "' behind '" + text + "'", -10 - faults[i], AlgebraLaws::tables, one, other);
            }
        }
    }

    private void badAheadOfState() {
        checks.sentence("the first of these: BAD ahead of STATE");
        for (String text : TEXTS) {
            AlgebraLaws a = bare(text);
            int size = a.count(0);
            checks.due("an image that is none, and none was kept", a.back(2), BAD);
            checks.due("an image that is none, and none was kept", a.back(-1), BAD);
            checks.due("f is that, but for an x that is none", a.sets(size, 0, size), BAD);
            checks.due("g is that, but for an x that is none", a.sets(size, -1, size), BAD);
            checks.due("f is that, but for a y that is none", a.sets(0, size, 0), BAD);
            checks.due("f is that, but for y -2", a.sets(0, -2, 0), BAD);
        }
    }

    private void badAheadOfFull() {
        checks.sentence("the first of these: BAD ahead of FULL");
        AlgebraLaws a = fullBefore(FAR_TOO_MANY);
        checks.due("a letter that is none, and sixty", a.type(256), BAD);
        checks.due("a letter that is none, and sixty", a.type(-1), BAD);
        checks.due("seen what can't be, and six", a.sees(17), BAD);
        checks.due("seen what can't be, and six", a.sees(-1), BAD);
        checks.due("what is none, and too many terms", a.free(2, 2), BAD);
        checks.due("what is none, and too many terms", a.free(2, -1), BAD);
        checks.due("a rank that is none, and too many terms", a.free(3, 0), BAD);
        checks.due("what is none, and too many rows", a.term(2), BAD);
        checks.due("what is none, and too many rows", a.term(-1), BAD);
        AlgebraLaws four = bare(TEXTS[6]);
        checks.due("size 4, and too many rows", four.term(0), BAD);
        checks.due("it would be FULL else", four.free(2, 0), FULL);
    }

    private void asks(String what, ToIntFunction<AlgebraLaws> call) {
        for (String text : TEXTS) {
            for (int state = 0; state < 3; state++) {
                AlgebraLaws one = inState(state, text);
                int first = call.applyAsInt(one);
                checks.due(what + " of '" + text + "', again", call.applyAsInt(one), first);
                checks.isTrue(what + " of '" + text + "', nothing changes", allOf(one).equals(allOf(inState(state, text))));
            }
        }
    }

    private void whatOnlyAsksChangesNothing() {
        checks.sentence("part 3: (Nothing is changed.)");
        for (int n = 0; n < 9; n++) {
            int i = n;
            asks("count " + i, a -> a.count(i));
            asks("law " + i, a -> a.law(i));
            asks("change " + i, a -> a.change(i));
            asks("closed " + i, a -> a.closed(i));
            asks("congruence " + i, a -> a.congruence(i));
            asks("made " + i, a -> a.made(i));
            asks("pair " + i, a -> a.pair(i / 4, i % 2, i % 4));
            asks("principal " + i, a -> a.principal(i / 3, i % 3));
            asks("f " + i, a -> a.f(i / 3, i % 3));
            asks("g " + i, a -> a.g(i));
        }
        for (int n = 0; n < 4; n++) {
            int i = n;
            asks("free " + i, a -> a.free(1 + i / 2, i % 2));
            asks("term " + i, a -> a.term(i % 2));
        }
        asks("unseen", AlgebraLaws::unseen);
    }

    private void fiveHundredAndTwelveCalls() {
        checks.sentence("An object is used for at most 512 calls after it has been made");
        AlgebraLaws a = new AlgebraLaws();
        for (int call = 1; call <= 512; call++) {
            checks.due("call " + call, a.sets(0, 0, call % 2), (call + 1) % 2);
        }
        AlgebraLaws undone = new AlgebraLaws();
        for (int call = 1; call <= 500; call++) {
            undone.sets(1, -1, (call + 1) % 2);
        }
        for (int left = 11; left >= 0; left--) {
            checks.due("call " + (512 - left), undone.undo(), left);
        }
        AlgebraLaws typed = new AlgebraLaws();
        for (int call = 1; call <= 512; call++) {
            checks.due("call " + call, typed.type(call % 256), call <= 60 ? call : FULL);
        }
    }
}
