/**
 * The edges that part 3 of the document's terms and promises 12 and 16 to 22 name, sentence by sentence: changes, terms,
 * which value, images.
 */
public final class SearchEdgesTest {
    private static final int BAD = AlgebraLaws.BAD;
    private static final int STATE = AlgebraLaws.STATE;
    private static final int FULL = AlgebraLaws.FULL;
    private static final int NONE = AlgebraLaws.NONE;
    private static final int LEAST = Integer.MIN_VALUE;
    private static final int GREATEST = Integer.MAX_VALUE;
    private static final String GROUP_OF_THREE = "n3;f012120201;g021;";
    private static final String CYCLE = "n4;g1230;";
    private static final String FAR_TOO_MANY = "n3;f120220000;";

    private final Checks checks = new Checks();

    public static void main(String[] args) {
        SearchEdgesTest test = new SearchEdgesTest();
        test.leastChange();
        test.noChange();
        test.promise12();
        test.lettersThatAreOne();
        test.rounds();
        test.moreThanTwoHundredTerms();
        test.promise16();
        test.termsOfOneElement();
        test.sizeThreeAtMost();
        test.tillItIsThere();
        test.tillARoundAddsNone();
        test.moreThanTwoHundredRows();
        test.promise17();
        test.sixSeenAtMost();
        test.promise18();
        test.promise19();
        test.placesAsBits();
        test.someOtherValue();
        test.allThatWasSeen();
        test.promise20();
        test.imagesKeepTables();
        test.nothingElse();
        test.promise21();
        test.promise22();
        test.checks.end();
    }

    private void due(String what, int got, int want) {
        checks.due(what, got, want);
    }

    private static Model modelOf(String text) {
        Model model = new Model();
        for (char letter : text.toCharArray()) {
            model.type(letter);
        }
        model.tables();
        return model;
    }

    private void leastChange() {
        checks.sentence("part 3: CHANGE: the least 100 x, 10 y and c by which f(x, y) being c instead of what it is, the LAW HOLDS");
        AlgebraLaws first = Checks.of("n4;");
        first.sets(0, 0, 1);
        due("the least of all", first.change(0), 0);
        AlgebraLaws last = Checks.of("n4;");
        last.sets(3, 3, 0);
        due("the greatest of all", last.change(0), 333);
        due("the least place of two", new AlgebraLaws().change(1), 11);
        due("the least value of two", Checks.of("n3;f122111222;").change(5), 0);
        due("not the value that it is", new AlgebraLaws().change(6), 1);
        AlgebraLaws late = Checks.of("n4;f0000000000010002;");
        due("of a law with three letters", late.change(2), 230);
    }

    private void noChange() {
        checks.sentence("part 3: CHANGE: NONE; -1: it HOLDS");
        AlgebraLaws one = Checks.of("n1;");
        for (int law = 0; law < 7; law++) {
            due("one element, law " + law, one.change(law), -1);
        }
        AlgebraLaws a = Checks.of("n4;");
        due("it holds", a.change(0), -1);
        a.sets(0, 0, 1);
        a.sets(1, 1, 0);
        due("two values are wrong", a.change(0), NONE);
        a.undo();
        due("one is wrong", a.change(0), 0);
        a.undo();
        due("it holds again", a.change(0), -1);
        due("f is not in the law", Checks.of("n4;g0122;").change(3), NONE);
    }

    private void promise12() {
        checks.sentence("promise 12: CHANGE for a LAW; NONE; -1. BAD.");
        AlgebraLaws a = new AlgebraLaws();
        due("the first law", a.change(0), -1);
        due("the last law", a.change(6), 1);
        for (int wrong : new int[] {-1, 7, 8, LEAST, GREATEST}) {
            due("law " + wrong, a.change(wrong), BAD);
        }
    }

    private void lettersThatAreOne() {
        checks.sentence("part 3: TERMS of r letters, two being one if they are alike for all ELEMENTS");
        freeDue("n1;", 1, 1, 0);
        freeDue("n1;", 2, 1, 0);
        freeDue("", 1, 1, 0);
        freeDue("", 2, 2, 0);
        freeDue("f0000;", 1, 2, 1);
        freeDue("f0000;", 2, 3, 1);
    }

    private void rounds() {
        checks.sentence("part 3: ROUND 0 has the letters; each next one adds f, g; ROUNDS (the last that adds something)");
        freeDue("n4;", 2, 2, 0);
        freeDue(CYCLE, 1, 4, 3);
        freeDue(CYCLE, 2, 8, 3);
        freeDue("f0110;g10;", 1, 4, 2);
        freeDue("n4;f0123123023013012;g0321;", 1, 4, 2);
        freeDue(GROUP_OF_THREE, 2, 9, 2);
        freeDue("n3;f000011012;", 2, 3, 1);
        freeDue("n2;f0000;g11;", 2, 4, 1);
    }

    private void freeDue(String text, int rank, int many, int rounds) {
        AlgebraLaws a = Checks.of(text);
        due("how many of rank " + rank + ", " + text, a.free(rank, 0), many);
        due("rounds of rank " + rank + ", " + text, a.free(rank, 1), rounds);
        Model model = modelOf(text);
        due("the model, how many of rank " + rank + ", " + text, model.free(rank, 0), many);
        due("the model, rounds of rank " + rank + ", " + text, model.free(rank, 1), rounds);
    }

    private void moreThanTwoHundredTerms() {
        checks.sentence("part 3: more than 200: FULL");
        freeDue("n4;f0010031101220123;g3133;", 2, 199, 5);
        freeDue("n4;f0010000000000030;g1122;", 2, 200, 7);
        freeDue("n3;f001111211;g002;", 2, 200, 7);
        freeDue("n4;f0000301000330000;g0113;", 2, FULL, FULL);
        freeDue("n4;f1003111120333333;g0123;", 2, FULL, FULL);
        freeDue("n4;f0000000000030010;g2130;", 1, 199, 13);
        freeDue("n4;f0000001300010200;g1330;", 1, FULL, FULL);
        freeDue("n3;f000200000;g011;", 2, FULL, FULL);
        freeDue("n4;f0000103000000000;g2031;", 1, FULL, FULL);
        freeDue(FAR_TOO_MANY, 1, 27, 6);
        freeDue(FAR_TOO_MANY, 2, FULL, FULL);
    }

    private void promise16() {
        checks.sentence("promise 16: FREE: how many (what = 0), ROUNDS (1). BAD; FULL.");
        AlgebraLaws a = Checks.of(FAR_TOO_MANY);
        for (int wrong : new int[] {-1, 0, 3, 4, LEAST, GREATEST}) {
            due("rank " + wrong, a.free(wrong, 0), BAD);
            due("rank " + wrong + ", rounds", a.free(wrong, 1), BAD);
        }
        for (int wrong : new int[] {-1, 2, 3, LEAST, GREATEST}) {
            due("what " + wrong, a.free(1, wrong), BAD);
            due("what " + wrong + ", ahead of FULL", a.free(2, wrong), BAD);
        }
        due("FULL", a.free(2, 0), FULL);
        due("FULL, rounds", a.free(2, 1), FULL);
        due("what was FULL leaves nothing behind", a.free(1, 0), 27);
    }

    private void termsDue(String text, int maltsev, int majority) {
        AlgebraLaws a = Checks.of(text);
        due("Maltsev of " + text, a.term(0), maltsev);
        due("majority of " + text, a.term(1), majority);
        Model model = modelOf(text);
        due("the model, Maltsev of " + text, model.term(0), maltsev);
        due("the model, majority of " + text, model.term(1), majority);
    }

    private void termsOfOneElement() {
        checks.sentence("part 3: MALTSEV: t(x, y, y) x, t(x, x, y) y, for all ELEMENTS. MAJORITY: all x: 1, 0");
        termsDue("n1;", 1, 1);
        termsDue("", 0, 0);
        termsDue("n3;", 0, 0);
        termsDue("f0110;", 1, 0);
        termsDue(GROUP_OF_THREE, 1, 0);
        termsDue("n3;f021102210;", 1, 0);
        termsDue("n3;f000011012;", 0, 0);
    }

    private void sizeThreeAtMost() {
        checks.sentence("part 3: (SIZE 3 at most; promise 17: BAD (SIZE 4, too)");
        due("size 3", Checks.of("n3;").term(0), 0);
        due("size 3, majority", Checks.of("n3;").term(1), 0);
        due("size 4", Checks.of("n4;").term(0), BAD);
        due("size 4, majority", Checks.of("n4;").term(1), BAD);
        due("size 4 of which one would be found at once", Checks.of("n4;f0123103223013210;").term(0), BAD);
        AlgebraLaws a = Checks.of("n4;");
        Checks.tells(a, "n1;");
        due("size 1 behind size 4", a.term(1), 1);
    }

    private void tillItIsThere() {
        checks.sentence("part 3: in ROUNDS as TERMS are, till it is there behind a ROUND");
        termsDue("n3;f012101210;g000;", 1, 0);
        due("195 rows with it", Checks.of("n3;f100012021;g000;").term(0), 1);
        due("64 rows with it", Checks.of("f1000;g00;").term(0), 1);
        due("it is there before there would be too many", Checks.of("f0001;g10;").term(0), 1);
        due("it is there by a round of 221 rows", Checks.of("n3;f110122020;g120;").term(0), FULL);
        due("it is there by a round of 202 rows", Checks.of("f1000;g00;").term(1), FULL);
        due("it is there by a round of 247 rows", Checks.of("f0001;g10;").term(1), FULL);
    }

    private void tillARoundAddsNone() {
        checks.sentence("part 3: or a ROUND adds none");
        due("the first adds none", Checks.of("n3;").term(0), 0);
        due("four rows in all", Checks.of("f0000;g00;").term(0), 0);
        due("four rows in all, majority", Checks.of("f0000;g00;").term(1), 0);
        due("199 rows in all", Checks.of("n3;f001021001;g000;").term(0), 0);
        due("200 rows in all", Checks.of("n3;f012010000;g010;").term(0), 0);
        due("200 rows in all, majority", Checks.of("n3;f222210000;g000;").term(1), 0);
    }

    private void moreThanTwoHundredRows() {
        checks.sentence("part 3: a ROUND by which there are more than 200 rows: FULL");
        due("201 rows in all", Checks.of("n3;f012010000;g000;").term(0), FULL);
        due("201 rows in all, the model", modelOf("n3;f012010000;g000;").term(0), FULL);
        due("201 rows in all, majority", Checks.of("n3;f002112112;g010;").term(1), FULL);
        due("201 rows in all, majority, the model", modelOf("n3;f002112112;g010;").term(1), FULL);
        due("202 rows in all, majority", Checks.of("n3;f010212012;g000;").term(1), FULL);
        due("the 201st is g of a row", Checks.of("n3;f000002000;g100;").term(0), FULL);
        due("the 201st is g of a row, majority", Checks.of("n3;f001111222;g100;").term(1), FULL);
        due("far too many", Checks.of(FAR_TOO_MANY).term(0), FULL);
        due("far too many, majority", Checks.of(FAR_TOO_MANY).term(1), FULL);
    }

    private void promise17() {
        checks.sentence("promise 17: MALTSEV (what = 0), MAJORITY (1). BAD; FULL.");
        AlgebraLaws a = Checks.of(FAR_TOO_MANY);
        for (int wrong : new int[] {-1, 2, 3, LEAST, GREATEST}) {
            due("what " + wrong + ", ahead of FULL", a.term(wrong), BAD);
            due("what " + wrong + ", size 4", Checks.of("n4;").term(wrong), BAD);
            due("what " + wrong + ", size 1", Checks.of("n1;").term(wrong), BAD);
        }
        due("FULL", a.term(0), FULL);
        due("what was FULL leaves nothing behind", a.free(1, 0), 27);
    }

    private void sixSeenAtMost() {
        checks.sentence("part 3: SEEN (6 at most)");
        AlgebraLaws a = new AlgebraLaws();
        for (int n = 1; n <= 6; n++) {
            due("one more", a.sees(4), n);
        }
        due("the seventh", a.sees(4), FULL);
        due("the seventh, another", a.sees(3), FULL);
        due("six", a.count(6), 6);
        due("what was refused does not count", a.unseen(), 0b0110);
        a.forget();
        for (int n = 1; n <= 5; n++) {
            a.sees(4);
        }
        due("the sixth counts", a.sees(3), 6);
        due("nothing is both", a.unseen(), 0);
    }

    private void promise18() {
        checks.sentence("promise 18: SEEN: how much there is. BAD (n 0 .. 16); FULL: 6.");
        for (int size = 1; size <= 4; size++) {
            AlgebraLaws a = Checks.of("n" + size + ";");
            for (int wrong : new int[] {-1, 17, 18, LEAST, GREATEST}) {
                due("n " + wrong, a.sees(wrong), BAD);
            }
            due("the least", a.sees(0), 1);
            due("the greatest, whatever the size is", a.sees(16), 2);
            due("twice the same", a.sees(16), 3);
            a.sees(1);
            a.sees(2);
            due("the sixth", a.sees(3), 6);
            due("BAD ahead of FULL, low", a.sees(-1), BAD);
            due("BAD ahead of FULL, high", a.sees(17), BAD);
            due("FULL, the least", a.sees(0), FULL);
            due("FULL, the greatest", a.sees(16), FULL);
        }
    }

    private void promise19() {
        checks.sentence("promise 19: Nothing is SEEN: how much was.");
        AlgebraLaws a = new AlgebraLaws();
        due("none", a.forget(), 0);
        a.sees(9);
        due("one", a.forget(), 1);
        due("none then", a.forget(), 0);
        for (int i = 0; i < 8; i++) {
            a.sees(9);
        }
        due("full", a.forget(), 6);
        due("none is seen", a.count(6), 0);
        due("all places again", a.unseen(), 15);
        due("there is room again", a.sees(4), 1);
        due("the old ones are gone", a.unseen(), 0b0110);
    }

    private void placesAsBits() {
        checks.sentence("part 3: UNSEEN: places of f (SIZE times x, and y; bits)");
        int[] allPlaces = {0, 15, 511, 65535};
        for (int n = 1; n <= 4; n++) {
            due("nothing seen: all that have another value, size " + n, Checks.of("n" + n + ";").unseen(), allPlaces[n - 1]);
            for (int place = 0; place < n * n; place++) {
                int x = place / n;
                int y = place % n;
                for (int c = 0; c < n; c++) {
                    if (c != x && c != y) {
                        AlgebraLaws a = Checks.of("n" + n + ";");
                        a.sets(x, y, c);
                        a.sees(1 << n);
                        due("only by this one all sets are closed", a.unseen(), 1 << place);
                    }
                }
            }
        }
    }

    private void someOtherValue() {
        checks.sentence("part 3: SEEN: one unknown value of f being another one than it is, there would be n CLOSED sets");
        AlgebraLaws one = Checks.of("n1;");
        due("one element has no other value", one.unseen(), 0);
        one.sees(2);
        due("one element, seen what it has", one.unseen(), 0);
        AlgebraLaws group = Checks.of(GROUP_OF_THREE);
        group.sees(3);
        due("the value that it is does not count", group.unseen(), modelUnseen(GROUP_OF_THREE, 3));
        AlgebraLaws two = Checks.of("f0001;g10;");
        two.sees(2);
        due("whatever it is, there are two", two.unseen(), 15);
        AlgebraLaws none = new AlgebraLaws();
        none.sees(0);
        due("there are never 0", none.unseen(), 0);
        none.forget();
        none.sees(1);
        due("there is never 1", none.unseen(), 0);
        AlgebraLaws cycle = Checks.of(CYCLE);
        cycle.sees(2);
        due("two, as few as can be", cycle.unseen(), 65535);
        AlgebraLaws most = Checks.of("n4;");
        most.sees(16);
        due("sixteen, as many as can be: not where x is y", most.unseen(), 65535 & ~0b1000010000100001);
    }

    private static int modelUnseen(String text, int n) {
        Model model = modelOf(text);
        model.sees(n);
        return model.unseen();
    }

    private void allThatWasSeen() {
        checks.sentence("part 3: for which by some other value all that was SEEN is so");
        AlgebraLaws a = Checks.of("n3;f000121222;");
        a.sees(4);
        due("f(0, 0) being 1", a.unseen() & 1, 1);
        a.forget();
        a.sees(5);
        due("f(0, 0) being 2", a.unseen() & 1, 1);
        a.sees(4);
        due("both by one value: none", a.unseen(), 0);
        a.forget();
        due("nothing seen", a.unseen(), 511);
        a.sees(4);
        int fits = a.unseen();
        a.sees(4);
        due("the same twice", a.unseen(), fits);
    }

    private void promise20() {
        checks.sentence("promise 20: UNSEEN (bits).");
        AlgebraLaws a = Checks.of("n4;");
        a.sees(16);
        a.sets(3, 3, 0);
        due("by f as it is now", a.unseen(), 1 << 15);
        a.sets(3, 3, 1);
        due("by f as it is then", a.unseen(), 1 << 15);
        a.sets(0, 0, 1);
        due("two values are wrong", a.unseen(), 0);
        a.undo();
        due("undone, one is wrong", a.unseen(), 1 << 15);
        due("f is as it was", a.f(3, 3), 1);
        due("what was seen stays", a.count(6), 1);
        due("what may be undone stays", a.count(8), 2);
    }

    private void imagesKeepTables() {
        checks.sentence("part 3: IMAGES 0, 1 keep f, g");
        for (int n = 1; n <= 4; n++) {
            AlgebraLaws a = Checks.of("n" + n + ";");
            due("kept", a.keep(0), n);
            for (int i = 0; i < n * n && n > 1; i++) {
                a.sets(i / n, i % n, (i / n + 1) % n);
                a.sets(i / n, -1, (i / n + 1) % n);
            }
            due("kept otherwise", a.keep(1), n);
            for (int image : new int[] {0, 1, 1, 0}) {
                due("back", a.back(image), n);
                for (int i = 0; i < n * n; i++) {
                    due("f of image " + image, a.f(i / n, i % n), (i / n + image) % n);
                    due("g of image " + image, a.g(i / n), (i / n + image) % n);
                }
            }
        }
    }

    private void nothingElse() {
        checks.sentence("part 3: IMAGES keep nothing else (nothing can be UNDONE behind back())");
        AlgebraLaws a = Checks.of(GROUP_OF_THREE);
        a.sets(0, 0, 1);
        a.sees(4);
        a.type('n');
        a.keep(0);
        due("keep() leaves what may be undone", a.count(8), 1);
        a.sets(0, 0, 2);
        a.sees(5);
        a.type('3');
        due("back", a.back(0), 3);
        due("f", a.f(0, 0), 1);
        due("what was seen is as it was", a.count(6), 2);
        due("the text is as it was", a.count(7), 2);
        due("what may be undone", a.count(8), 0);
        due("undo", a.undo(), STATE);
        due("set behind back()", a.sets(0, 0, 0), 1);
        due("that may be undone", a.undo(), 0);
        due("to the image's", a.f(0, 0), 1);
        a.forget();
        a.clear();
        due("back, seen", a.back(0) * 10 + a.count(6), 30);
        due("back, text", a.back(0) * 10 + a.count(7), 30);
    }

    private void promise21() {
        checks.sentence("promise 21: An IMAGE is kept: SIZE. BAD.");
        for (int n = 1; n <= 4; n++) {
            AlgebraLaws a = Checks.of("n" + n + ";");
            for (int wrong : new int[] {-1, 2, 3, LEAST, GREATEST}) {
                due("image " + wrong, a.keep(wrong), BAD);
            }
            due("0 is not kept by it", a.back(0), STATE);
            due("1 is not kept by it", a.back(1), STATE);
            due("0", a.keep(0), n);
            due("1 is not 0", a.back(1), STATE);
            due("1", a.keep(1), n);
        }
        AlgebraLaws a = new AlgebraLaws();
        a.keep(0);
        a.keep(1);
        a.sets(0, 0, 1);
        due("kept anew", a.keep(0), 2);
        due("1 as it was", a.back(1) * 10 + a.f(0, 0), 20);
        due("0 as it was kept last", a.back(0) * 10 + a.f(0, 0), 21);
    }

    private void promise22() {
        checks.sentence("promise 22: All of that becomes as an IMAGE has it: SIZE. BAD; STATE: none was kept.");
        AlgebraLaws a = Checks.of(GROUP_OF_THREE);
        for (int wrong : new int[] {-1, 2, 3, LEAST, GREATEST}) {
            due("image " + wrong + ", none kept: BAD ahead of STATE", a.back(wrong), BAD);
        }
        due("0, none kept", a.back(0), STATE);
        due("1, none kept", a.back(1), STATE);
        a.keep(1);
        due("0, only 1 kept", a.back(0), STATE);
        due("1", a.back(1), 3);
        due("1 again", a.back(1), 3);
        for (int wrong : new int[] {-1, 2, 3, LEAST, GREATEST}) {
            due("image " + wrong, a.back(wrong), BAD);
        }
        due("a text with a fault", Checks.tells(a, "n5;"), -11);
        due("leaves the image", a.back(1), 3);
        due("a text", Checks.tells(a, GROUP_OF_THREE), 3);
        due("takes it away", a.back(1), STATE);
    }
}
