import java.util.List;
import java.util.function.ToIntFunction;

/**
 * The edges that part 2 of the document's terms and promises 5 to 11, 13 to 15 and 23 name, sentence by sentence: values,
 * sets, laws, partitions, maps.
 */
public final class AlgebraEdgesTest {
    private static final int BAD = AlgebraLaws.BAD;
    private static final int STATE = AlgebraLaws.STATE;
    private static final int NONE = AlgebraLaws.NONE;
    private static final int LEAST = Integer.MIN_VALUE;
    private static final int GREATEST = Integer.MAX_VALUE;
    private static final int KNOWN = 12;
    private static final String CYCLE = "n4;g1230;";
    private static final String[] SOME = {
        "n1;", "", "f0001;g10;", "f1110;", "n3;", "n3;f012120201;g021;", "n3;f111222000;", "n4;", CYCLE,
        "n4;f0123123023013012;g0321;", "n4;f0000011101220123;", "n4;f0000000000000001;g0213;"};

    private final Checks checks = new Checks();

    public static void main(String[] args) {
        AlgebraEdgesTest test = new AlgebraEdgesTest();
        test.promise5And6();
        test.promise7Numbers();
        test.promise7WhatItWas();
        test.twelveAreKnown();
        test.onlyWhatWasNotRefused();
        test.promise8();
        test.emptySetIsClosed();
        test.leastAround();
        test.promise9();
        test.promise10();
        test.lawsFirstAndLast();
        test.lawsOfOneElement();
        test.lettersNotNamed();
        test.promise11();
        test.namesOfPartitions();
        test.goAlongForEachZ();
        test.promise13();
        test.principalOfOne();
        test.promise14();
        test.coarsestAndFinest();
        test.permute();
        test.promise15();
        test.maps();
        test.promise23();
        test.asTheyAreNow();
        test.checks.end();
    }

    private void due(String what, int got, int want) {
        checks.due(what, got, want);
    }

    private static AlgebraLaws ofSize(int n) {
        return Checks.of("n" + n + ";");
    }

    private void promise5And6() {
        checks.sentence("promises 5, 6: f(x, y). g(x). BAD.");
        for (int n = 1; n <= 4; n++) {
            AlgebraLaws a = ofSize(n);
            due("first", a.f(0, 0) * 10 + a.g(0), 0);
            due("last", a.f(n - 1, n - 1) * 10 + a.g(n - 1), 11 * (n - 1));
            due("x 0, y the last", a.f(0, n - 1), 0);
            for (int wrong : new int[] {-1, n, n + 1, n + 4, 16, LEAST, GREATEST}) {
                due("f, x " + wrong, a.f(wrong, 0), BAD);
                due("f, y " + wrong, a.f(0, wrong), BAD);
                due("f, both " + wrong, a.f(wrong, wrong), BAD);
                due("g, x " + wrong, a.g(wrong), BAD);
            }
        }
    }

    private void promise7Numbers() {
        checks.sentence("promise 7: SET: f(x, y) is c; y -1: g(x) is c. BAD.");
        for (int n = 1; n <= 4; n++) {
            AlgebraLaws a = ofSize(n);
            for (int wrong : new int[] {-1, n, n + 4, 16, LEAST, GREATEST}) {
                due("x " + wrong, a.sets(wrong, 0, 0), BAD);
                due("x for g " + wrong, a.sets(wrong, -1, 0), BAD);
                due("c " + wrong, a.sets(0, 0, wrong), BAD);
                due("c for g " + wrong, a.sets(0, -1, wrong), BAD);
            }
            for (int wrong : new int[] {-2, n, n + 4, 16, LEAST, GREATEST}) {
                due("y " + wrong, a.sets(0, wrong, 0), BAD);
            }
            due("none was set", a.count(8), 0);
        }
        AlgebraLaws a = ofSize(4);
        due("the last of all, f", a.sets(3, 3, 2), 3);
        due("the last of all, g", a.sets(3, -1, 2), 3);
        due("the last value, f", a.sets(0, 3, 3), 0);
        due("the last value, g", a.sets(0, -1, 3), 0);
        due("f is so", a.f(3, 3) * 10 + a.f(0, 3), 23);
        due("g is so", a.g(3) * 10 + a.g(0), 23);
        due("f(3, 0) is not meant by y -1", a.f(3, 0) * 10 + a.f(2, 3), 32);
    }

    private void promise7WhatItWas() {
        checks.sentence("promise 7: what it was. STATE: it is that.");
        for (int n = 1; n <= 4; n++) {
            AlgebraLaws a = ofSize(n);
            for (int x = 0; x < n; x++) {
                due("g is that", a.sets(x, -1, x), STATE);
                for (int y = 0; y < n; y++) {
                    due("f is that", a.sets(x, y, x), STATE);
                }
            }
            due("none was set", a.count(8), 0);
        }
        AlgebraLaws a = ofSize(3);
        due("it was 0", a.sets(0, 0, 2), 0);
        due("it was 2", a.sets(0, 0, 1), 2);
        due("it is that", a.sets(0, 0, 1), STATE);
        due("it may be 0 again", a.sets(0, 0, 0), 1);
        due("each was a change", a.count(8), 3);
    }

    private void twelveAreKnown() {
        checks.sentence("part 2: UNDONE: 12 are known, older ones are lost");
        for (int many = 0; many <= 3 * KNOWN; many++) {
            AlgebraLaws a = ofSize(4);
            for (int i = 0; i < many; i++) {
                a.sets(i / 4 % 4, i % 4, (i / 4 % 4 + 1 + i / 16) % 4);
            }
            int known = Math.min(many, KNOWN);
            due(many + " changes", a.count(8), known);
            for (int i = many - 1; i >= many - known; i--) {
                due(many + " changes, undone", a.undo(), i - (many - known));
                due(many + " changes, as it was", a.f(i / 4 % 4, i % 4), (i / 4 % 4 + i / 16) % 4);
            }
            due(many + " changes, no more", a.undo(), STATE);
            for (int i = Math.max(0, many - known - 16); i < many - known; i++) {
                due(many + " changes, the lost ones stand", a.f(i / 4 % 4, i % 4), (i / 4 % 4 + 1 + i / 16) % 4);
            }
        }
    }

    private void onlyWhatWasNotRefused() {
        checks.sentence("part 2: UNDONE: the latest sets() that was not refused");
        AlgebraLaws a = ofSize(3);
        a.sets(1, 1, 2);
        a.sets(1, 1, 2);
        a.sets(1, 1, 3);
        a.sets(3, 1, 0);
        a.sets(0, -1, 0);
        due("one", a.count(8), 1);
        due("undone", a.undo(), 0);
        due("as it was", a.f(1, 1), 1);
        due("undo() is no sets()", a.undo(), STATE);
        for (int i = 0; i < KNOWN; i++) {
            a.sets(0, 0, (i + 1) % 3);
        }
        due("refused when all twelve are known", a.sets(0, 0, 0), STATE);
        due("none is lost by it", a.count(8), KNOWN);
        for (int i = KNOWN - 1; i >= 0; i--) {
            due("undone", a.undo(), i);
        }
        due("as at first", a.f(0, 0), 0);
    }

    private void promise8() {
        checks.sentence("promise 8: UNDONE: how many more may be. STATE: none.");
        AlgebraLaws a = new AlgebraLaws();
        due("none", a.undo(), STATE);
        a.sets(0, 0, 1);
        a.sets(1, -1, 0);
        due("two", a.undo(), 1);
        due("g first", a.g(1) * 10 + a.f(0, 0), 11);
        due("one", a.undo(), 0);
        due("then f", a.f(0, 0), 0);
        due("none is left", a.undo(), STATE);
        a.sets(0, 0, 1);
        a.undo();
        due("set anew behind undo()", a.sets(0, 1, 1), 0);
        due("one may be", a.count(8), 1);
        due("it is undone", a.undo(), 0);
        due("to what it was", a.f(0, 1) * 10 + a.f(0, 0), 0);
    }

    private void emptySetIsClosed() {
        checks.sentence("part 2: CLOSED: a set of ELEMENTS (the empty one, too)");
        for (String text : SOME) {
            AlgebraLaws a = Checks.of(text);
            int all = (1 << a.count(0)) - 1;
            due("the first is empty, " + text, a.closed(0), 0);
            due("made by none, " + text, a.made(0), 0);
            due("the last is all, " + text, a.closed(a.count(1) - 1), all);
            due("made by all, " + text, a.made(all), all);
        }
    }

    private void leastAround() {
        checks.sentence("part 2: MADE by a set: the least CLOSED one around it");
        AlgebraLaws steps = Checks.of("n4;g1233;");
        due("step by step from 0", steps.made(1), 15);
        due("from 1", steps.made(2), 14);
        due("from 2", steps.made(4), 12);
        due("from 3", steps.made(8), 8);
        due("against the order", Checks.of("n4;g0012;").made(8), 15);
        AlgebraLaws two = Checks.of("n4;f0230111122223333;");
        due("f of two, one of them just made", two.made(3), 15);
        due("0 and 2 make 3", two.made(5), 13);
        due("1 and 2 make none", two.made(6), 6);
        due("0 makes none", two.made(1), 1);
        due("f of one with itself", Checks.of("n2;f1111;").made(1), 3);
        due("f(y, x) counts, too", Checks.of("n3;f000211222;").made(3), 7);
    }

    private void promise9() {
        checks.sentence("promise 9: MADE by a set (bits). BAD.");
        for (int n = 1; n <= 4; n++) {
            AlgebraLaws a = ofSize(n);
            for (int set = 0; set < 1 << n; set++) {
                due("itself, size " + n, a.made(set), set);
            }
            for (int wrong : new int[] {-1, 1 << n, (1 << n) + 1, 1 << n + 1, LEAST, GREATEST}) {
                due("set " + wrong + ", size " + n, a.made(wrong), BAD);
            }
        }
    }

    private void promise10() {
        checks.sentence("promise 10: The k-th CLOSED set by its number (0 on); NONE. BAD.");
        for (int n = 1; n <= 4; n++) {
            AlgebraLaws a = ofSize(n);
            for (int k = 0; k < 1 << n; k++) {
                due("as many as can be, size " + n, a.closed(k), k);
            }
            for (int none : new int[] {1 << n, (1 << n) + 1, 16, 17, 1000, GREATEST}) {
                due("no " + none + ", size " + n, a.closed(none), NONE);
            }
            due("-1", a.closed(-1), BAD);
            due("the least int", a.closed(LEAST), BAD);
        }
        AlgebraLaws few = Checks.of(CYCLE);
        due("as few as can be", few.count(1), 2);
        due("the empty one", few.closed(0), 0);
        due("all", few.closed(1), 15);
        due("no more", few.closed(2), NONE);
    }

    private void lawsFirstAndLast() {
        checks.sentence("part 2: FIRST: the least x, of these y, then z, by which it is not");
        String last = "n4;f0000000000000001;";
        String[] first = {"f1000;", "f0100;", "f1010;", "g11;", "f0000;g11;", "f1000;", "f0001;"};
        int[] firstDue = {0, 10, 0, 0, 0, 0, 10};
        String[] latest = {"n4;f0000010000200002;", "n4;f0000011101220103;", "n4;f0000000000010002;", "n4;g0122;",
            last + "g0213;", last, last};
        int[] latestDue = {300, 230, 333, 300, 330, 330, 30};
        for (int law = 0; law < 7; law++) {
            due("law " + law + ", at once", Checks.of(first[law]).law(law), firstDue[law]);
            due("law " + law + ", as late as can be", Checks.of(latest[law]).law(law), latestDue[law]);
        }
        due("the least x, though a lesser y would do for another", Checks.of("n3;f001211000;").law(5), 20);
        due("the least y, though a lesser z would do for another", Checks.of("n2;f0010;").law(2), 101);
    }

    private void lawsOfOneElement() {
        checks.sentence("part 2: A LAW HOLDS, if it is so for all ELEMENTS x, y, z");
        AlgebraLaws one = ofSize(1);
        for (int law = 0; law < 7; law++) {
            due("one element, law " + law, one.law(law), NONE);
        }
        due("all of them", one.count(3), 127);
        AlgebraLaws none = Checks.of("n3;f120220010;g112;");
        for (int law = 0; law < 7; law++) {
            checks.isTrue("law " + law + " does not", none.law(law) >= 0);
        }
        due("none of them", none.count(3), 0);
    }

    private void lettersNotNamed() {
        checks.sentence("part 2: 100 x, 10 y and z; 0 for those that it does not name");
        AlgebraLaws a = ofSize(4);
        a.sets(2, 2, 1);
        a.sets(2, -1, 1);
        due("law 0 names x", a.law(0), 200);
        due("law 3 names x", a.law(3), 200);
        due("law 1 names x, y", a.law(1), 10);
        due("law 4 names x, y", a.law(4), 10);
        due("law 5 names x, y", Checks.of("n4;f0000111100103333;").law(5), 220);
        due("law 6 names x, y", a.law(6), 10);
        due("law 2 names x, y, z", Checks.of("n4;f0000000000010002;").law(2), 333);
    }

    private void promise11() {
        checks.sentence("promise 11: FIRST of a LAW; NONE: it HOLDS. BAD.");
        AlgebraLaws a = new AlgebraLaws();
        due("the first law", a.law(0), NONE);
        due("the last law", a.law(6), 10);
        for (int wrong : new int[] {-1, 7, 8, LEAST, GREATEST}) {
            due("law " + wrong, a.law(wrong), BAD);
        }
    }

    private void namesOfPartitions() {
        checks.sentence("part 2: NAME (of four, 0 and 1 together, 2, 3 by themselves: 0, 0, 2, 3: 23)");
        AlgebraLaws four = ofSize(4);
        due("0 and 1 together", four.congruence(four.principal(0, 1)), 23);
        int[][] names = {{0}, {0, 1}, {0, 2, 10, 11, 12},
            {0, 3, 20, 22, 23, 100, 101, 103, 110, 111, 113, 120, 121, 122, 123}};
        for (int n = 1; n <= 4; n++) {
            AlgebraLaws a = ofSize(n);
            due("all of size " + n, a.count(2), names[n - 1].length);
            for (int k = 0; k < names[n - 1].length; k++) {
                due("size " + n + ", " + k, a.congruence(k), names[n - 1][k]);
            }
        }
    }

    private void goAlongForEachZ() {
        checks.sentence("part 2: so are f(x, z) and f(y, z), f(z, x) and f(z, y), g(x) and g(y), for each z");
        AlgebraLaws corner = Checks.of("n4;f0000000000000001;");
        due("by the last z alone", corner.congruence(corner.principal(2, 3)), 22);
        due("0 and 1 are free of it", corner.congruence(corner.principal(0, 1)), 23);
        AlgebraLaws right = Checks.of("n4;f0000000000000010;");
        due("f(z, x), z the last", right.congruence(right.principal(1, 2)), 3);
        AlgebraLaws left = Checks.of("n4;f0000000000010000;");
        due("f(x, z), z the last", left.congruence(left.principal(1, 2)), 3);
        AlgebraLaws rightOfFirst = Checks.of("n4;f0300000000000000;");
        due("f(z, x), z the first", rightOfFirst.congruence(rightOfFirst.principal(1, 2)), 110);
        AlgebraLaws leftOfFirst = Checks.of("n4;f0000300000000000;");
        due("f(x, z), z the first", leftOfFirst.congruence(leftOfFirst.principal(1, 2)), 110);
        AlgebraLaws one = Checks.of("n4;f0000000000000000;g0023;");
        due("g that goes along", one.congruence(one.principal(0, 1)), 23);
        due("g that does not", one.congruence(one.principal(1, 2)), 3);
    }

    private void promise13() {
        checks.sentence("promise 13: NAME of the k-th CONGRUENCE (0 on); NONE. BAD.");
        due("asked first of all", new AlgebraLaws().congruence(1), 1);
        due("asked first of all, the last of four", ofSize(4).congruence(14), 123);
        for (String text : SOME) {
            AlgebraLaws a = Checks.of(text);
            int many = a.count(2);
            int[] finest = {0, 1, 12, 123};
            due("the first has all in one block, " + text, a.congruence(0), 0);
            due("the last has each by itself, " + text, a.congruence(many - 1), finest[a.count(0) - 1]);
            for (int none : new int[] {many, many + 1, 15, 16, 1000, GREATEST}) {
                due("no " + none + ", " + text, a.congruence(none), NONE);
            }
            due("-1, " + text, a.congruence(-1), BAD);
            due("the least int, " + text, a.congruence(LEAST), BAD);
            for (int k = 1; k < many; k++) {
                checks.isTrue("by their names, " + text, a.congruence(k - 1) < a.congruence(k));
            }
        }
    }

    private void principalOfOne() {
        checks.sentence("part 2: PRINCIPAL of x, y: the finest that has both in one block");
        for (String text : SOME) {
            AlgebraLaws a = Checks.of(text);
            int last = a.count(2) - 1;
            for (int x = 0; x < a.count(0); x++) {
                due("of one and itself, " + text, a.principal(x, x), last);
                for (int y = 0; y < x; y++) {
                    due("either way, " + text, a.principal(x, y), a.principal(y, x));
                    checks.isTrue("not the finest of all, " + text, a.principal(x, y) < last);
                }
            }
        }
        due("no other than all in one", Checks.of("n3;f111222000;").principal(0, 2), 0);
    }

    private void promise14() {
        checks.sentence("promise 14: The number of PRINCIPAL of x, y. BAD.");
        due("asked first of all", new AlgebraLaws().principal(1, 1), 1);
        for (int n = 1; n <= 4; n++) {
            AlgebraLaws a = ofSize(n);
            due("the last element", a.principal(n - 1, n - 1), a.count(2) - 1);
            for (int wrong : new int[] {-1, n, n + 4, 16, LEAST, GREATEST}) {
                due("x " + wrong, a.principal(wrong, 0), BAD);
                due("y " + wrong, a.principal(0, wrong), BAD);
                due("both " + wrong, a.principal(wrong, wrong), BAD);
            }
        }
    }

    private void coarsestAndFinest() {
        checks.sentence("part 2: JOIN, MEET: the finest one that is coarser than both, the coarsest one finer than both");
        for (String text : SOME) {
            AlgebraLaws a = Checks.of(text);
            int last = a.count(2) - 1;
            for (int k = 0; k <= last; k++) {
                due("join with the coarsest", a.pair(0, k, 0) * 100 + a.pair(k, 0, 0), 0);
                due("meet with the coarsest", a.pair(0, k, 1) * 100 + a.pair(k, 0, 1), k * 101);
                due("join with the finest", a.pair(last, k, 0) * 100 + a.pair(k, last, 0), k * 101);
                due("meet with the finest", a.pair(last, k, 1) * 100 + a.pair(k, last, 1), last * 101);
                due("join, meet with itself", a.pair(k, k, 0) * 100 + a.pair(k, k, 1), k * 101);
                due("permutes with all three", a.pair(k, 0, 2) + a.pair(k, last, 2) + a.pair(k, k, 2), 3);
                due("finer than the coarsest", a.pair(k, 0, 3), 1);
                due("the coarsest is finer than itself alone", a.pair(0, k, 3), k == 0 ? 1 : 0);
                due("the finest is finer", a.pair(last, k, 3), 1);
                due("finer than the finest is itself alone", a.pair(k, last, 3), k == last ? 1 : 0);
                due("finer or the same", a.pair(k, k, 3), 1);
            }
        }
        AlgebraLaws chain = Checks.of("n4;f0000011101220123;");
        due("0003 and 0122 are joined by 0000 here", chain.pair(1, 6, 0), 0);
        AlgebraLaws corner = Checks.of("n4;f0000000000000001;");
        due("0003 and 0022 are met by 0023", corner.congruence(corner.pair(1, 3, 1)), 23);
    }

    private void permute() {
        checks.sentence("part 2: They PERMUTE, if wherever x is with some z in the first, z with y in the second, ..");
        AlgebraLaws three = ofSize(3);
        due("002 and 010", three.pair(1, 2, 2), 0);
        due("010 and 002", three.pair(2, 1, 2), 0);
        due("002 and 011", three.pair(1, 3, 2), 0);
        due("011 and 002", three.pair(3, 1, 2), 0);
        AlgebraLaws four = ofSize(4);
        due("0022 and 0101", four.pair(3, 6, 2), 1);
        due("0022 and 0110", four.pair(3, 8, 2), 1);
        due("0022 and 0113", four.pair(3, 10, 2), 0);
        due("0113 and 0022", four.pair(10, 3, 2), 0);
        due("0023 and 0122", four.pair(4, 13, 2), 1);
        due("0003 and 0023, one in the other", four.pair(1, 4, 2), 1);
    }

    private void promise15() {
        checks.sentence("promise 15: JOIN (what = 0), MEET (1), PERMUTE (2), finer or the same (3). BAD.");
        due("asked first of all", new AlgebraLaws().pair(0, 1, 1), 1);
        for (String text : SOME) {
            AlgebraLaws a = Checks.of(text);
            int many = a.count(2);
            for (int what = 0; what <= 3; what++) {
                checks.isTrue("the last with itself, " + text, a.pair(many - 1, many - 1, what) >= 0);
                for (int wrong : new int[] {-1, many, many + 1, 15, 16, LEAST, GREATEST}) {
                    due("a " + wrong + ", " + text, a.pair(wrong, 0, what), BAD);
                    due("b " + wrong + ", " + text, a.pair(0, wrong, what), BAD);
                    due("both " + wrong + ", " + text, a.pair(wrong, wrong, what), BAD);
                }
            }
            for (int wrong : new int[] {-1, 4, 5, LEAST, GREATEST}) {
                due("what " + wrong + ", " + text, a.pair(0, 0, wrong), BAD);
            }
        }
    }

    private void maps() {
        checks.sentence("part 2: MAPS: of all ELEMENTS to ELEMENTS that go along. ONTO: those by which each ELEMENT is met");
        String[] texts = {"n1;", "", "n3;", "n4;", "f1110;", CYCLE, "n4;f0000000000000000;", "n4;f0000011101220123;",
            "n3;g112;", "n3;f000200000;"};
        int[] all = {1, 4, 27, 256, 1, 4, 64, 35, 6, 3};
        int[] onto = {1, 2, 6, 24, 1, 4, 6, 1, 1, 1};
        for (int i = 0; i < texts.length; i++) {
            due("all of " + texts[i], Checks.of(texts[i]).count(4), all[i]);
            due("onto of " + texts[i], Checks.of(texts[i]).count(5), onto[i]);
        }
    }

    private void promise23() {
        checks.sentence("promise 23: 0 SIZE .. 8 how many may be UNDONE. BAD.");
        AlgebraLaws a = new AlgebraLaws();
        for (int wrong : new int[] {-1, 9, 10, LEAST, GREATEST}) {
            due("what " + wrong, a.count(wrong), BAD);
        }
        int[] atFirst = {2, 4, 2, 0b0101101, 4, 2, 0, 0, 0};
        for (int what = 0; what <= 8; what++) {
            due("new, " + what, a.count(what), atFirst[what]);
        }
        for (int i = 0; i < 70; i++) {
            a.type(' ');
            a.sees(4);
            a.sets(0, 0, (i + 1) % 2);
        }
        due("seen, full", a.count(6), 6);
        due("letters, full", a.count(7), 60);
        due("undone, full", a.count(8), KNOWN);
        due("closed sets, as many as can be", ofSize(4).count(1), 16);
        due("closed sets, as few as can be", ofSize(1).count(1), 2);
        due("congruences, as many as can be", ofSize(4).count(2), 15);
        due("congruences, as few as can be", ofSize(1).count(2), 1);
        due("congruences, as few as two elements can have", Checks.of("f1110;").count(2), 2);
    }

    /** An answer must not be left over from tables that were: it is the first that is asked behind the change. */
    private void asTheyAreNow() {
        checks.sentence("parts 2, 3: all is asked of f, g as they are by then");
        List<ToIntFunction<AlgebraLaws>> asked = List.of(
            a -> a.made(1), a -> a.closed(1), a -> a.law(1), a -> a.change(1), a -> a.congruence(1),
            a -> a.principal(0, 1), a -> a.pair(0, 1, 3), a -> a.free(2, 0), a -> a.term(0), AlgebraLaws::unseen);
        for (int i = 0; i < asked.size() + 6; i++) {
            int what = i - asked.size();
            ToIntFunction<AlgebraLaws> ask = what < 0 ? asked.get(i) : a -> a.count(what);
            for (String before : SOME) {
                for (String then : SOME) {
                    AlgebraLaws a = Checks.of(before);
                    ask.applyAsInt(a);
                    Checks.tells(a, then);
                    int due = ask.applyAsInt(Checks.of(then));
                    due("asked " + i + " of '" + then + "' behind '" + before + "'", ask.applyAsInt(a), due);
                    a.keep(0);
                    a.sets(0, 0, 1);
                    a.sets(0, -1, 1);
                    AlgebraLaws other = Checks.of(then);
                    other.sets(0, 0, 1);
                    other.sets(0, -1, 1);
                    int changed = ask.applyAsInt(other);
                    due("asked " + i + " of '" + then + "', changed", ask.applyAsInt(a), changed);
                    a.back(0);
                    due("asked " + i + " of '" + then + "', back", ask.applyAsInt(a), due);
                    a.sets(0, 0, 1);
                    ask.applyAsInt(a);
                    a.undo();
                    due("asked " + i + " of '" + then + "', undone", ask.applyAsInt(a), due);
                }
            }
        }
    }
}
