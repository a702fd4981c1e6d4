/** The promises one by one: ordinary calls, the edges that the document names, and wrong calls. */
public final class PromisesTest {
    private static final int BAD = AlgebraLaws.BAD;
    private static final int STATE = AlgebraLaws.STATE;
    private static final int FULL = AlgebraLaws.FULL;
    private static final int NONE = AlgebraLaws.NONE;
    private static final int[] WRONG = {-1, -2, -1000, Integer.MIN_VALUE, Integer.MAX_VALUE};
    private static final String GROUP_OF_THREE = "n3;f012120201;g021;";
    private static final String GROUP_OF_FOUR = "n4;f0123123023013012;g0321;";
    private static final String CHAIN_OF_FOUR = "n4;f0000011101220123;";

    private final Checks checks = new Checks();

    public static void main(String[] args) {
        PromisesTest test = new PromisesTest();
        test.promise1();
        test.promise2();
        test.promise3();
        test.promise4();
        test.promise4Faults();
        test.promise5();
        test.promise6();
        test.promise7();
        test.promise8();
        test.promise9();
        test.promise10();
        test.promise11();
        test.promise12();
        test.promise13();
        test.promise14();
        test.promise15();
        test.promise16();
        test.promise17();
        test.promise18();
        test.promise19();
        test.promise20();
        test.promise21();
        test.promise22();
        test.promise23();
        test.checks.end();
    }

    private void due(String what, int got, int want) {
        checks.due(what, got, want);
    }

    private void promise1() {
        due("BAD", BAD, -2);
        due("STATE", STATE, -3);
        due("FULL", FULL, -4);
        due("NONE", NONE, -9);
        AlgebraLaws a = new AlgebraLaws();
        int[] counts = {2, 4, 2, 0b0101101, 4, 2, 0, 0, 0};
        for (int what = 0; what < counts.length; what++) {
            due("1: new, count " + what, a.count(what), counts[what]);
        }
        for (int x = 0; x < 2; x++) {
            due("1: new, g", a.g(x), x);
            for (int y = 0; y < 2; y++) {
                due("1: new, f", a.f(x, y), x);
            }
        }
        due("1: new, undo", a.undo(), STATE);
        due("1: new, back 0", a.back(0), STATE);
        due("1: new, back 1", a.back(1), STATE);
        due("1: new, clear", a.clear(), 0);
        due("1: new, forget", a.forget(), 0);
        due("1: new, unseen", a.unseen(), 15);
    }

    private void promise2() {
        AlgebraLaws a = new AlgebraLaws();
        due("2: -1", a.type(-1), BAD);
        due("2: 256", a.type(256), BAD);
        due("2: 256 changes nothing", a.count(7), 0);
        due("2: 0", a.type(0), 1);
        due("2: 255", a.type(255), 2);
        for (int n = 3; n <= 60; n++) {
            due("2: one more", a.type(32), n);
        }
        due("2: the 61st", a.type(32), FULL);
        due("2: BAD is ahead of FULL", a.type(256), BAD);
        due("2: refused, nothing changes", a.count(7), 60);
    }

    private void promise3() {
        AlgebraLaws a = new AlgebraLaws();
        due("3: empty", a.clear(), 0);
        Checks.types(a, "x n3;");
        due("3: five", a.clear(), 5);
        due("3: none then", a.count(7), 0);
        due("3: the old letters are gone", a.tables(), 0);
        for (int i = 0; i < 60; i++) {
            a.type('x');
        }
        due("3: sixty", a.clear(), 60);
        due("3: there is room again", a.type('x'), 1);
    }

    private void promise4() {
        AlgebraLaws a = new AlgebraLaws();
        due("4: three items", Checks.tells(a, GROUP_OF_THREE), 3);
        due("4: the text is empty then", a.count(7), 0);
        due("4: size", a.count(0), 3);
        for (int x = 0; x < 3; x++) {
            due("4: g", a.g(x), (3 - x) % 3);
            for (int y = 0; y < 3; y++) {
                due("4: f", a.f(x, y), (x + y) % 3);
            }
        }
        a.sets(0, 0, 1);
        a.sees(4);
        a.keep(0);
        a.keep(1);
        due("4: a fault", Checks.tells(a, "n4;n4;"), -13);
        due("4: a fault leaves the text", a.count(7), 6);
        due("4: a fault leaves size", a.count(0), 3);
        due("4: a fault leaves f", a.f(0, 0), 1);
        due("4: a fault leaves what was seen", a.count(6), 1);
        due("4: a fault leaves what can be undone", a.count(8), 1);
        due("4: a fault leaves images", a.back(1), 3);
        a.sets(1, 1, 0);
        due("4: f, g in either order, told again as told last", Checks.tells(a, "g10;f0000;g11;f1 11 0;"), 4);
        due("4: no size told: two", a.count(0), 2);
        due("4: f told last 00", a.f(0, 0), 1);
        due("4: f told last 11", a.f(1, 1), 0);
        due("4: g told last", a.g(0), 1);
        due("4: nothing can be undone", a.count(8), 0);
        due("4: nothing can be undone, undo", a.undo(), STATE);
        due("4: nothing is seen", a.count(6), 0);
        due("4: image 0 is gone", a.back(0), STATE);
        due("4: image 1 is gone", a.back(1), STATE);
        due("4: blanks alone", Checks.tells(a, "   "), 0);
        due("4: as at first, f", a.f(0, 0), 0);
        due("4: as at first, g", a.g(0), 0);
        due("4: the size alone", Checks.tells(a, "  n 4 ; "), 1);
        due("4: f is the first one", a.f(3, 1), 3);
        due("4: g is the element", a.g(3), 3);
        due("4: one element", Checks.tells(a, "n1;f0;g0;"), 3);
        due("4: one element, size", a.count(0), 1);
        due("4: sixty letters", Checks.tells(a, GROUP_OF_FOUR + "f0000000000000000;g0000;f11111111"), -70);
    }

    private void promise4Faults() {
        String[] texts = {
            "n0;", "n5;", "n9;", "n;", "n", "n2", "n2 ", "n22;", "nn", "n f", "n2;n2;", "g01;n2;", "f0000;n2;",
            "2", ";", "n2;;", "x", " x", "N2;", "\tn2;", "n2;x", "f", "f000;", "f0000", "f0000 ", "f00000;",
            "f0002;", "f 0 0 0 3;", "n3;f012012013;", "n3;g03;", "g0;", "g012;", "g01", "g;", "f0000g01;", "f0000 n",
            "g0x", "n1;g1;", "n1;f00;", "n4;g0124;", "n3;n", "n3 ; g 0 1 2 ; ;", "f00-1", "n2;g01;f", "g2x", "x;g2"};
        int[] faults = {
            1, 1, 1, 1, 1, 2, 3, 2, 1, 2, 3, 4, 6,
            0, 0, 3, 0, 1, 0, 0, 3, 1, 4, 5, 6, 5,
            4, 8, 12, 5, 2, 3, 3, 1, 5, 6,
            2, 4, 5, 7, 3, 15, 3, 8, 1, 0};
        AlgebraLaws a = new AlgebraLaws();
        for (int i = 0; i < texts.length; i++) {
            due("4: fault of '" + texts[i] + "'", Checks.tells(a, texts[i]), -10 - faults[i]);
            due("4: nothing changes by '" + texts[i] + "'", a.count(0) * 100 + a.count(7), 200 + texts[i].length());
        }
        due("4: as many texts as faults", texts.length, faults.length);
    }

    private void promise5() {
        AlgebraLaws a = Checks.of("n3;f012201120;");
        int[] values = {0, 1, 2, 2, 0, 1, 1, 2, 0};
        for (int i = 0; i < 9; i++) {
            due("5: f", a.f(i / 3, i % 3), values[i]);
        }
        for (int wrong : WRONG) {
            due("5: x " + wrong, a.f(wrong, 0), BAD);
            due("5: y " + wrong, a.f(0, wrong), BAD);
        }
        due("5: x is size", a.f(3, 0), BAD);
        due("5: y is size", a.f(0, 3), BAD);
    }

    private void promise6() {
        AlgebraLaws a = Checks.of("n4;g3021;");
        int[] values = {3, 0, 2, 1};
        for (int x = 0; x < 4; x++) {
            due("6: g", a.g(x), values[x]);
        }
        for (int wrong : WRONG) {
            due("6: x " + wrong, a.g(wrong), BAD);
        }
        due("6: x is size", a.g(4), BAD);
    }

    private void promise7() {
        AlgebraLaws a = Checks.of(GROUP_OF_THREE);
        due("7: f(1, 2)", a.sets(1, 2, 2), 0);
        due("7: f(1, 2) is so", a.f(1, 2), 2);
        due("7: f(2, 1) is as it was", a.f(2, 1), 0);
        due("7: g(2)", a.sets(2, -1, 0), 1);
        due("7: g(2) is so", a.g(2), 0);
        due("7: f that it is", a.sets(1, 2, 2), STATE);
        due("7: g that it is", a.sets(0, -1, 0), STATE);
        due("7: x is size", a.sets(3, 0, 0), BAD);
        due("7: y is size", a.sets(0, 3, 0), BAD);
        due("7: y -2", a.sets(0, -2, 0), BAD);
        due("7: c is size", a.sets(0, 0, 3), BAD);
        due("7: c is size, g", a.sets(0, -1, 3), BAD);
        due("7: x -1", a.sets(-1, -1, 0), BAD);
        due("7: c -1", a.sets(0, 0, -1), BAD);
        due("7: only what was not refused can be undone", a.count(8), 2);
        a.sees(3);
        a.keep(0);
        a.sets(0, 0, 2);
        due("7: what was seen stays", a.count(6), 1);
        due("7: the image stays as it was", a.back(0) * 10 + a.f(0, 0), 30);
    }

    private void promise8() {
        AlgebraLaws a = Checks.of(GROUP_OF_THREE);
        due("8: none", a.undo(), STATE);
        a.sets(0, 0, 1);
        a.sets(0, 0, 2);
        a.sets(1, -1, 0);
        a.sets(1, -1, 0);
        due("8: the third", a.undo(), 2);
        due("8: g as it was", a.g(1), 2);
        due("8: f not yet", a.f(0, 0), 2);
        due("8: the second", a.undo(), 1);
        due("8: f as it was before the second", a.f(0, 0), 1);
        due("8: the first", a.undo(), 0);
        due("8: f as it was at first", a.f(0, 0), 0);
        due("8: no more", a.undo(), STATE);
        for (int i = 0; i < 13; i++) {
            due("8: thirteen changes", a.sets(0, 0, (i + 1) % 3), i % 3);
        }
        due("8: twelve are known", a.count(8), 12);
        for (int left = 11; left >= 0; left--) {
            due("8: twelve are undone", a.undo(), left);
            due("8: back by one", a.f(0, 0), (left + 1) % 3);
        }
        due("8: the oldest is lost", a.undo(), STATE);
        due("8: so it stands", a.f(0, 0), 1);
        AlgebraLaws many = Checks.of("n4;");
        for (int i = 0; i < 16; i++) {
            many.sets(i / 4, i % 4, (i / 4 + 1) % 4);
        }
        many.sets(3, -1, 0);
        for (int i = 16; i > 4; i--) {
            due("8: seventeen changes, undone", many.undo(), i - 5);
            due("8: the one before still stands", many.f((i - 1) / 4, (i - 1) % 4), ((i - 1) / 4 + 1) % 4);
        }
        due("8: g as it was", many.g(3), 3);
        for (int i = 0; i < 16; i++) {
            due("8: the five oldest stand", many.f(i / 4, i % 4), (i / 4 + (i < 5 ? 1 : 0)) % 4);
        }
    }

    private void promise9() {
        AlgebraLaws a = Checks.of(GROUP_OF_FOUR);
        int[] made = {0, 1, 15, 15, 5, 5, 15, 15, 15, 15, 15, 15, 15, 15, 15, 15};
        for (int set = 0; set < 16; set++) {
            due("9: made by " + set, a.made(set), made[set]);
        }
        due("9: 16", a.made(16), BAD);
        for (int wrong : WRONG) {
            due("9: " + wrong, a.made(wrong), BAD);
        }
        AlgebraLaws chain = Checks.of("n4;g1230;");
        due("9: one by one", chain.made(8), 15);
        due("9: through f alone", Checks.of("n3;f021212102;").made(3), 7);
        due("9: of the small one", Checks.of("n2;").made(4), BAD);
    }

    private void promise10() {
        AlgebraLaws a = Checks.of(GROUP_OF_FOUR);
        int[] closed = {0, 1, 5, 15, NONE, NONE};
        for (int k = 0; k < closed.length; k++) {
            due("10: closed " + k, a.closed(k), closed[k]);
        }
        AlgebraLaws free = Checks.of("n4;");
        for (int k = 0; k < 16; k++) {
            due("10: all sets " + k, free.closed(k), k);
        }
        due("10: 16", free.closed(16), NONE);
        due("10: very many", free.closed(Integer.MAX_VALUE), NONE);
        due("10: -1", free.closed(-1), BAD);
        due("10: the least int", free.closed(Integer.MIN_VALUE), BAD);
    }

    private void promise11() {
        due("11: 0, x alone", Checks.of(GROUP_OF_THREE).law(0), 100);
        due("11: 0, by 0", Checks.of("f1001;").law(0), 0);
        due("11: 0, by the last", Checks.of("n3;f001011120;").law(0), 200);
        due("11: 0, a chain", Checks.of(CHAIN_OF_FOUR).law(0), NONE);
        due("11: 1", Checks.of("n3;f012110201;").law(1), NONE);
        due("11: 1, at once", Checks.of("n3;f012212201;").law(1), 10);
        due("11: 1, later", Checks.of("n3;f012112201;").law(1), 120);
        due("11: 2", Checks.of("n2;f0110;").law(2), NONE);
        due("11: 2, nand", Checks.of("n2;f1110;").law(2), 1);
        due("11: 2, difference", Checks.of("n3;f021102210;").law(2), 1);
        due("11: 2, later", Checks.of("n2;f0010;").law(2), 101);
        due("11: 3", Checks.of("n3;g102;").law(3), NONE);
        due("11: 3, by 0", Checks.of("g11;").law(3), 0);
        due("11: 3, later", Checks.of("n3;g000;").law(3), 100);
        due("11: 4", Checks.of(GROUP_OF_THREE).law(4), NONE);
        due("11: 4, later", Checks.of("n2;f0001;g10;").law(4), 10);
        due("11: 5", Checks.of(CHAIN_OF_FOUR).law(5), NONE);
        due("11: 5, by 0, 0", Checks.of("n3;f120120120;").law(5), 0);
        due("11: 5, later", Checks.of(GROUP_OF_THREE).law(5), 100);
        due("11: 6", Checks.of(GROUP_OF_THREE).law(6), NONE);
        due("11: 6, at once", Checks.of("n3;g001;").law(6), 10);
        due("11: 6, later", Checks.of("n3;f000000001;").law(6), 20);
        due("11: 7", Checks.of("").law(7), BAD);
        for (int wrong : WRONG) {
            due("11: " + wrong, Checks.of("").law(wrong), BAD);
        }
    }

    private void promise12() {
        due("12: it holds", Checks.of(GROUP_OF_THREE).change(1), -1);
        due("12: two values are wrong", Checks.of(GROUP_OF_THREE).change(0), NONE);
        due("12: 22 is wrong", Checks.of("n3;f012112201;").change(0), 222);
        due("12: either of two, the least", Checks.of("").change(1), 11);
        due("12: no value of f helps", Checks.of("g11;").change(3), NONE);
        due("12: law 6", Checks.of("").change(6), 1);
        AlgebraLaws broken = Checks.of(GROUP_OF_FOUR);
        broken.sets(2, 3, 0);
        due("12: a group's value", broken.change(2), 231);
        due("12: nothing is changed", broken.f(2, 3), 0);
        due("12: nothing can be undone by it", broken.count(8), 1);
        due("12: 7", broken.change(7), BAD);
        for (int wrong : WRONG) {
            due("12: " + wrong, broken.change(wrong), BAD);
        }
    }

    private void promise13() {
        int[] names = {0, 3, 20, 22, 23, 100, 101, 103, 110, 111, 113, 120, 121, 122, 123};
        AlgebraLaws all = Checks.of("n4;");
        for (int k = 0; k < names.length; k++) {
            due("13: all of four, " + k, all.congruence(k), names[k]);
        }
        due("13: 15", all.congruence(15), NONE);
        due("13: very many", all.congruence(Integer.MAX_VALUE), NONE);
        due("13: -1", all.congruence(-1), BAD);
        due("13: the least int", all.congruence(Integer.MIN_VALUE), BAD);
        int[] ofGroup = {0, 101, 123, NONE};
        AlgebraLaws group = Checks.of(GROUP_OF_FOUR);
        for (int k = 0; k < ofGroup.length; k++) {
            due("13: of the group, " + k, group.congruence(k), ofGroup[k]);
        }
        int[] ofChain = {0, 3, 22, 23, 111, 113, 122, 123, NONE};
        AlgebraLaws chain = Checks.of(CHAIN_OF_FOUR);
        for (int k = 0; k < ofChain.length; k++) {
            due("13: of the chain, " + k, chain.congruence(k), ofChain[k]);
        }
        due("13: g alone forbids", Checks.of("n3;g120;").count(2), 2);
        due("13: f(x, z) alone forbids", Checks.of("n3;f111222000;").count(2), 2);
        due("13: f(z, x) alone forbids", Checks.of("n3;f120120120;").count(2), 2);
        due("13: one element", Checks.of("n1;").congruence(0), 0);
        due("13: one element, no more", Checks.of("n1;").congruence(1), NONE);
    }

    private void promise14() {
        AlgebraLaws group = Checks.of(GROUP_OF_FOUR);
        int[] principal = {2, 0, 1, 0, 0, 2, 0, 1, 1, 0, 2, 0, 0, 1, 0, 2};
        for (int i = 0; i < 16; i++) {
            due("14: of the group", group.principal(i / 4, i % 4), principal[i]);
        }
        AlgebraLaws all = Checks.of("n4;");
        due("14: 0 and 1 alone: 0023", all.principal(0, 1), 4);
        due("14: 3 and 0 alone: 0120", all.principal(3, 0), 11);
        due("14: itself: 0123", all.principal(2, 2), 14);
        AlgebraLaws chain = Checks.of(CHAIN_OF_FOUR);
        due("14: chain 1, 3: 0111", chain.principal(1, 3), 4);
        due("14: x is size", chain.principal(4, 0), BAD);
        due("14: y is size", chain.principal(0, 4), BAD);
        for (int wrong : WRONG) {
            due("14: x " + wrong, chain.principal(wrong, 0), BAD);
            due("14: y " + wrong, chain.principal(0, wrong), BAD);
        }
    }

    private void promise15() {
        AlgebraLaws all = Checks.of("n4;");
        due("15: join of 0023 and 0122 is 0022", all.pair(4, 13, 0), 3);
        due("15: meet of them is 0123", all.pair(4, 13, 1), 14);
        due("15: they permute", all.pair(4, 13, 2), 1);
        due("15: neither is finer", all.pair(4, 13, 3), 0);
        due("15: join of 0023 and 0113 is 0003", all.pair(4, 10, 0), 1);
        due("15: they do not permute", all.pair(4, 10, 2), 0);
        due("15: nor the other way", all.pair(10, 4, 2), 0);
        due("15: meet of 0003 and 0111 is 0113", all.pair(1, 9, 1), 10);
        due("15: join of them is 0000", all.pair(1, 9, 0), 0);
        due("15: 0023 is finer than 0003", all.pair(4, 1, 3), 1);
        due("15: 0003 is not finer than 0023", all.pair(1, 4, 3), 0);
        due("15: the same is finer or the same", all.pair(7, 7, 3), 1);
        due("15: the same joined", all.pair(7, 7, 0), 7);
        due("15: the same met", all.pair(7, 7, 1), 7);
        due("15: what 4", all.pair(0, 0, 4), BAD);
        due("15: no 15", all.pair(15, 0, 0), BAD);
        due("15: no 15 behind", all.pair(0, 15, 0), BAD);
        for (int wrong : WRONG) {
            due("15: a " + wrong, all.pair(wrong, 0, 0), BAD);
            due("15: b " + wrong, all.pair(0, wrong, 1), BAD);
            due("15: what " + wrong, all.pair(0, 0, wrong), BAD);
        }
        due("15: no third one of the group of three", Checks.of(GROUP_OF_THREE).pair(0, 2, 0), BAD);
    }

    private void promise16() {
        free("", 1, 0, 2, 0);
        free("n1;", 1, 0, 1, 0);
        free("n2;f0110;", 2, 1, 4, 1);
        free(GROUP_OF_FOUR, 4, 2, 16, 2);
        free("n3;g120;", 3, 2, 6, 2);
        free("n2;f1110;", 4, 3, 16, 3);
        due("16: 200 terms", Checks.of("n4;f0300000100003330;").free(2, 0), 200);
        due("16: 200 terms, rounds", Checks.of("n4;f0300000100003330;").free(2, 1), 5);
        due("16: 201 terms", Checks.of("n4;f0000211001220123;g0000;").free(2, 0), FULL);
        due("16: 201 terms, rounds", Checks.of("n4;f0000211001220123;g0000;").free(2, 1), FULL);
        due("16: 199 terms of one letter", Checks.of("n4;f0002000000000001;g1320;").free(1, 0), 199);
        due("16: 199 terms of one letter, rounds", Checks.of("n4;f0002000000000001;g1320;").free(1, 1), 13);
        due("16: 202 terms of one letter", Checks.of("n4;f0000013010000002;g2033;").free(1, 0), FULL);
        due("16: all 27 of one letter", Checks.of("n3;f120220000;").free(1, 0), 27);
        due("16: far too many", Checks.of("n3;f120220000;").free(2, 0), FULL);
        AlgebraLaws a = Checks.of("n3;f120220000;");
        due("16: BAD is ahead of FULL", a.free(2, 2), BAD);
        due("16: rank 0", a.free(0, 0), BAD);
        due("16: rank 3", a.free(3, 0), BAD);
        for (int wrong : WRONG) {
            due("16: rank " + wrong, a.free(wrong, 0), BAD);
            due("16: what " + wrong, a.free(1, wrong), BAD);
        }
        due("16: what was FULL before does not matter", a.free(2, 0) * 100 + a.free(1, 0), FULL * 100 + 27);
    }

    private void free(String text, int ofOne, int roundsOfOne, int ofTwo, int roundsOfTwo) {
        AlgebraLaws a = Checks.of(text);
        due("16: terms of one letter, " + text, a.free(1, 0), ofOne);
        due("16: rounds of one letter, " + text, a.free(1, 1), roundsOfOne);
        due("16: terms of two letters, " + text, a.free(2, 0), ofTwo);
        due("16: rounds of two letters, " + text, a.free(2, 1), roundsOfTwo);
    }

    private void promise17() {
        due("17: a group undoes", Checks.of(GROUP_OF_THREE).term(0), 1);
        due("17: a group has no majority", Checks.of(GROUP_OF_THREE).term(1), 0);
        due("17: a chain does not undo", Checks.of("n3;f000011012;").term(0), 0);
        due("17: a chain of one table has no majority", Checks.of("n3;f000011012;").term(1), 0);
        due("17: projections do not undo", Checks.of("n3;").term(0), 0);
        due("17: one element undoes", Checks.of("n1;").term(0), 1);
        due("17: one element has a majority", Checks.of("n1;").term(1), 1);
        due("17: x - y + z by difference", Checks.of("n3;f021102210;").term(0), 1);
        due("17: it is there before there are too many", Checks.of("f0001;g10;").term(0), 1);
        due("17: it is there only by a round too large", Checks.of("f0001;g10;").term(1), FULL);
        due("17: 202 rows with it", Checks.of("f1110;g00;").term(1), FULL);
        due("17: 200 rows, none", Checks.of("n3;f000100202;g002;").term(0), 0);
        due("17: 201 rows", Checks.of("n3;f010011022;g000;").term(0), FULL);
        due("17: 200 rows of three ways, none", Checks.of("n3;f022000222;g000;").term(1), 0);
        due("17: 201 rows of three ways", Checks.of("n3;f002112002;g011;").term(1), FULL);
        due("17: 195 rows with it", Checks.of("n3;f012101210;g111;").term(0), 1);
        due("17: four elements", Checks.of("n4;").term(0), BAD);
        due("17: four elements, majority", Checks.of("n4;").term(1), BAD);
        due("17: what 2", Checks.of("").term(2), BAD);
        for (int wrong : WRONG) {
            due("17: what " + wrong, Checks.of("").term(wrong), BAD);
        }
    }

    private void promise18() {
        AlgebraLaws a = new AlgebraLaws();
        due("18: -1", a.sees(-1), BAD);
        due("18: 17", a.sees(17), BAD);
        due("18: 0", a.sees(0), 1);
        due("18: 16, though there are two elements", a.sees(16), 2);
        for (int n = 3; n <= 6; n++) {
            due("18: the same again", a.sees(4), n);
        }
        due("18: the seventh", a.sees(4), FULL);
        due("18: BAD is ahead of FULL", a.sees(17), BAD);
        due("18: refused, nothing changes", a.count(6), 6);
    }

    private void promise19() {
        AlgebraLaws a = new AlgebraLaws();
        due("19: none", a.forget(), 0);
        for (int n = 0; n < 6; n++) {
            a.sees(9);
        }
        due("19: nothing fits", a.unseen(), 0);
        due("19: six", a.forget(), 6);
        due("19: none is seen", a.count(6), 0);
        due("19: all fits again", a.unseen(), 15);
        due("19: there is room again", a.sees(4), 1);
    }

    private void promise20() {
        AlgebraLaws a = new AlgebraLaws();
        due("20: nothing seen", a.unseen(), 15);
        a.sees(4);
        due("20: four closed sets: 01 or 10 being the other one", a.unseen(), 0b0110);
        a.forget();
        a.sees(3);
        due("20: three closed sets: 00 or 11 being the other one", a.unseen(), 0b1001);
        due("20: nothing is changed", a.f(0, 0) * 10 + a.f(1, 1), 1);
        a.sees(4);
        due("20: both can't be so", a.unseen(), 0);
        a.forget();
        a.sees(2);
        due("20: two can't be", a.unseen(), 0);
        due("20: one element has no other value", Checks.of("n1;").unseen(), 0);
        due("20: all places of four", Checks.of("n4;").unseen(), 0xFFFF);
        AlgebraLaws three = Checks.of("n3;");
        three.sees(8);
        due("20: by some value of several", three.unseen(), 0b011101110);
        three.sets(0, 0, 1);
        three.forget();
        three.sees(8);
        due("20: by what f is now: only 00 put right", three.unseen(), 1);
        due("20: what was seen stays", three.count(6), 1);
    }

    private void promise21() {
        AlgebraLaws a = Checks.of(GROUP_OF_THREE);
        a.sets(0, 0, 1);
        due("21: an image", a.keep(0), 3);
        due("21: what can be undone stays", a.count(8), 1);
        due("21: 2", a.keep(2), BAD);
        due("21: the other one is not kept", a.back(1), STATE);
        for (int wrong : WRONG) {
            due("21: " + wrong, a.keep(wrong), BAD);
        }
        a.sets(0, 0, 2);
        due("21: kept anew", a.keep(0), 3);
        a.sets(0, 0, 0);
        due("21: the later one counts", a.back(0) * 10 + a.f(0, 0), 32);
        due("21: size 4", Checks.of("n4;").keep(1), 4);
    }

    private void promise22() {
        AlgebraLaws a = Checks.of(GROUP_OF_THREE);
        due("22: none was kept", a.back(0), STATE);
        due("22: 2", a.back(2), BAD);
        for (int wrong : WRONG) {
            due("22: " + wrong, a.back(wrong), BAD);
        }
        a.keep(1);
        a.sets(1, 1, 0);
        a.sets(2, -1, 2);
        a.keep(0);
        a.sees(4);
        a.type('x');
        due("22: back", a.back(1), 3);
        due("22: f as it was", a.f(1, 1), 2);
        due("22: g as it was", a.g(2), 1);
        due("22: nothing can be undone", a.undo(), STATE);
        due("22: nothing can be undone, count", a.count(8), 0);
        due("22: what was seen stays", a.count(6), 1);
        due("22: the text stays", a.count(7), 1);
        due("22: the other image", a.back(0), 3);
        due("22: its f", a.f(1, 1), 0);
        due("22: its g", a.g(2), 2);
        a.sets(0, 0, 2);
        due("22: an image is not touched by sets", a.back(0) * 10 + a.f(0, 0), 30);
        a.sets(0, 0, 2);
        due("22: refused, what can be undone stays", a.back(5) * 10 + a.count(8), BAD * 10 + 1);
    }

    private void promise23() {
        counts(GROUP_OF_THREE, 3, 3, 2, 0b1011110, 3, 2);
        counts(GROUP_OF_FOUR, 4, 4, 3, 0b1011110, 4, 2);
        counts("n4;", 4, 16, 15, 0b0101101, 256, 24);
        counts("n1;", 1, 2, 1, 0b1111111, 1, 1);
        counts(CHAIN_OF_FOUR, 4, 16, 8, 0b0111111, 35, 1);
        counts("n3;f111111111;", 3, 5, 5, 0b1111110, 9, 2);
        AlgebraLaws a = Checks.of(GROUP_OF_THREE);
        a.sees(1);
        a.sees(2);
        Checks.types(a, "abcde");
        a.sets(0, 0, 1);
        due("23: seen", a.count(6), 2);
        due("23: letters", a.count(7), 5);
        due("23: undone", a.count(8), 1);
        due("23: 9", a.count(9), BAD);
        for (int wrong : WRONG) {
            due("23: " + wrong, a.count(wrong), BAD);
        }
    }

    private void counts(String text, int... due) {
        AlgebraLaws a = Checks.of(text);
        for (int what = 0; what < due.length; what++) {
            due("23: count " + what + " of " + text, a.count(what), due[what]);
        }
    }
}
