/** The edges that part 1 of the document's terms and promises 1 to 4 name, sentence by sentence: the text. */
public final class TextEdgesTest {
    private static final int BAD = AlgebraLaws.BAD;
    private static final int STATE = AlgebraLaws.STATE;
    private static final int FULL = AlgebraLaws.FULL;
    private static final int MOST = 60;
    private static final String WHOLE = "n4;f0123123023013012;g0321;";

    private final Checks checks = new Checks();

    public static void main(String[] args) {
        TextEdgesTest test = new TextEdgesTest();
        test.sizeOneToFour();
        test.sizeTwoAtFirst();
        test.tablesAtFirst();
        test.sixtyLettersAtMost();
        test.blanksBetweenTokens();
        test.itemsEndedBySemicolon();
        test.sizeFirstOfAll();
        test.figuresOfTwoPlaces();
        test.figuresOfOnePlace();
        test.tokensAndOtherLetters();
        test.figuresEachByItself();
        test.faultIsTheFirst();
        test.faultOfSizeOrMore();
        test.faultOfTooManyOrTooFew();
        test.faultOfTextThatEndsTooEarly();
        test.toldAgain();
        test.readAnew();
        test.promise1NewObject();
        test.promise2Type();
        test.promise3Clear();
        test.promise4Tables();
        test.checks.end();
    }

    private void due(String what, int got, int want) {
        checks.due(what, got, want);
    }

    private void faultDue(String text, int place) {
        due("fault of '" + text + "'", Checks.tells(new AlgebraLaws(), text), -10 - place);
    }

    private void itemsDue(String text, int items) {
        due("items of '" + text + "'", Checks.tells(new AlgebraLaws(), text), items);
    }

    private static String figures(int many, int figure) {
        return String.valueOf(figure).repeat(many);
    }

    private void sizeOneToFour() {
        checks.sentence("part 1: SIZE 1 .. 4");
        for (int n = 1; n <= 4; n++) {
            AlgebraLaws a = new AlgebraLaws();
            due("n" + n, Checks.tells(a, "n" + n + ";"), 1);
            due("size", a.count(0), n);
            due("the last element, f", a.f(n - 1, n - 1), n - 1);
            due("the last element, g", a.g(n - 1), n - 1);
            due("f of none, x", a.f(n, 0), BAD);
            due("f of none, y", a.f(0, n), BAD);
            due("g of none", a.g(n), BAD);
        }
        for (int n : new int[] {0, 5, 6, 7, 8, 9}) {
            AlgebraLaws a = Checks.of("n3;");
            due("n" + n, Checks.tells(a, "n" + n + ";"), -11);
            due("size stays", a.count(0), 3);
        }
    }

    private void sizeTwoAtFirst() {
        checks.sentence("part 1: SIZE 2 at first");
        due("new", new AlgebraLaws().count(0), 2);
        AlgebraLaws a = Checks.of("n4;");
        due("an empty text", a.tables(), 0);
        due("as at first", a.count(0), 2);
        a = Checks.of("n1;");
        due("no size told", Checks.tells(a, "g10;"), 1);
        due("as at first", a.count(0), 2);
    }

    private void tablesAtFirst() {
        checks.sentence("part 1: f the first one, g the ELEMENT itself, at first");
        firstTables(new AlgebraLaws(), 2, true, true);
        for (int n = 1; n <= 4; n++) {
            AlgebraLaws a = Checks.of("n4;f0000000000000000;g0000;");
            Checks.tells(a, "n" + n + ";");
            firstTables(a, n, true, true);
            Checks.tells(a, "n" + n + ";g" + figures(n, n - 1) + ";");
            firstTables(a, n, true, n == 1);
            Checks.tells(a, "n" + n + ";f" + figures(n * n, n - 1) + ";");
            firstTables(a, n, n == 1, true);
        }
    }

    private void firstTables(AlgebraLaws a, int n, boolean firstF, boolean firstG) {
        for (int x = 0; x < n; x++) {
            due("g of size " + n, a.g(x), firstG ? x : n - 1);
            for (int y = 0; y < n; y++) {
                due("f of size " + n, a.f(x, y), firstF ? x : n - 1);
            }
        }
    }

    private void sixtyLettersAtMost() {
        checks.sentence("part 1: a text (60 letters at most)");
        AlgebraLaws a = new AlgebraLaws();
        String text = " ".repeat(MOST - WHOLE.length()) + WHOLE;
        due("the last letter is the 60th", Checks.tells(a, text), 3);
        due("it is read to its end", a.f(3, 3) * 10 + a.g(3), 21);
        Checks.types(a, " ".repeat(MOST - WHOLE.length() + 1) + WHOLE.substring(0, WHOLE.length() - 1));
        due("the last letter would be the 61st", a.type(';'), FULL);
        due("so the text ends too early", a.tables(), -10 - MOST);
        due("twenty items", Checks.tells(a, "n1;" + "f0;".repeat(19)), 20);
        due("a fault at the last place", Checks.tells(a, " ".repeat(MOST - 1) + "x"), -10 - (MOST - 1));
        due("blanks alone", Checks.tells(a, " ".repeat(MOST)), 0);
    }

    private void blanksBetweenTokens() {
        checks.sentence("part 1: blanks (32) between TOKENS");
        AlgebraLaws a = new AlgebraLaws();
        due("between all", Checks.tells(a, "  n  3 ;  f 0 1 2  1 2 0  2 0 1 ; g 0 2 1 ; "), 3);
        due("f", a.f(1, 2) * 10 + a.f(2, 2), 1);
        due("g", a.g(1) * 10 + a.g(2), 21);
        itemsDue("n3;f012120201;g021;", 3);
        itemsDue(" ", 0);
        itemsDue("", 0);
        for (int letter : new int[] {0, 9, 10, 13, 31, 33, 95, 160, 255}) {
            faultDue("n" + (char) letter + "3;", 1);
        }
    }

    private void itemsEndedBySemicolon() {
        checks.sentence("part 1: ITEMS, each ended by ;");
        itemsDue("n3;", 1);
        faultDue("n3", 2);
        itemsDue("g10;", 1);
        faultDue("g10", 3);
        faultDue("g10f0000;", 3);
        faultDue("n2g10;", 2);
        faultDue("f0000,", 5);
        faultDue(";", 0);
        faultDue("n3;;", 3);
        faultDue("g10;;", 4);
    }

    private void sizeFirstOfAll() {
        checks.sentence("part 1: n N (SIZE; the first of all, if it is told); FAULT: n behind another ITEM");
        itemsDue("n2;f0000;g00;", 3);
        itemsDue("f0000;g00;", 2);
        faultDue("f0000;n2;", 6);
        faultDue("g00;n2;", 4);
        faultDue("n2;n2;", 3);
        faultDue("n3;  n", 5);
        faultDue("n2;f0000;g00;n", 13);
        faultDue("nn2;", 1);
    }

    private void figuresOfTwoPlaces() {
        checks.sentence("part 1: f and SIZE times SIZE figures (f(0, 0), f(0, 1) ..)");
        for (int n = 1; n <= 4; n++) {
            StringBuilder text = new StringBuilder("n").append(n).append(";f");
            for (int x = 0; x < n; x++) {
                for (int y = 0; y < n; y++) {
                    text.append((2 * x + 3 * y + 1) % n);
                }
            }
            AlgebraLaws a = new AlgebraLaws();
            due("size " + n, Checks.tells(a, text + ";"), 2);
            for (int x = 0; x < n; x++) {
                for (int y = 0; y < n; y++) {
                    due("f of size " + n, a.f(x, y), (2 * x + 3 * y + 1) % n);
                }
            }
        }
    }

    private void figuresOfOnePlace() {
        checks.sentence("part 1: g and SIZE figures");
        for (int n = 1; n <= 4; n++) {
            StringBuilder text = new StringBuilder("n").append(n).append(";g");
            for (int x = 0; x < n; x++) {
                text.append((3 * x + 2) % n);
            }
            AlgebraLaws a = new AlgebraLaws();
            due("size " + n, Checks.tells(a, text + ";"), 2);
            for (int x = 0; x < n; x++) {
                due("g of size " + n, a.g(x), (3 * x + 2) % n);
            }
        }
    }

    private void tokensAndOtherLetters() {
        checks.sentence("part 1: TOKENS are n, f, g, figures, ; FAULT of any other letter: that letter's place");
        for (int letter = 0; letter < 256; letter++) {
            char c = (char) letter;
            if ("nfg0123456789; ".indexOf(c) < 0) {
                faultDue(c + "n2;", 0);
                faultDue("n2;" + c, 3);
                faultDue("n2; g0" + c + "1;", 6);
                faultDue("g01" + c + ";", 3);
            }
        }
        faultDue("N2;", 0);
        faultDue("F0000;", 0);
        faultDue("G01;", 0);
    }

    private void figuresEachByItself() {
        checks.sentence("part 1: figures 0 .. 9 (each by itself)");
        faultDue("n12;", 2);
        faultDue("n02;", 1);
        faultDue("n 1 2;", 4);
        itemsDue("f 00 01 ;", 1);
        itemsDue("f0 0 0 1;", 1);
        faultDue("g09;", 2);
        faultDue("g0/;", 2);
        faultDue("g0:;", 2);
        faultDue("0", 0);
        faultDue("n2;9", 3);
    }

    private void faultIsTheFirst() {
        checks.sentence("part 1: FAULT: the place of the first letter of the first TOKEN that can't stand there");
        faultDue("n5;x", 1);
        faultDue("x;n5", 0);
        faultDue("n3;f3x", 4);
        faultDue("n;;", 1);
        faultDue("n5", 1);
        faultDue("g02;n", 2);
        faultDue("   9", 3);
        faultDue("n   5;", 4);
        faultDue("n3   3;", 5);
        faultDue("g 0    ;", 7);
        faultDue("nf", 1);
        faultDue("fg", 1);
        faultDue("gn", 1);
        faultDue("ff", 1);
        faultDue("f0f", 2);
        faultDue("g;", 1);
    }

    private void faultOfSizeOrMore() {
        checks.sentence("part 1: FAULT: SIZE not 1 .. 4, a figure of SIZE or more");
        for (int n = 1; n <= 4; n++) {
            figureAtEachPlace("n" + n + ";f", n * n, n);
            figureAtEachPlace("n" + n + ";g", n, n);
        }
        figureAtEachPlace("f", 4, 2);
        figureAtEachPlace("g", 2, 2);
        faultDue("n0;", 1);
        faultDue("n5;", 1);
    }

    private void figureAtEachPlace(String head, int many, int size) {
        for (int i = 0; i < many; i++) {
            String before = head + figures(i, 0);
            String behind = figures(many - i - 1, 0) + ";";
            itemsDue(before + (size - 1) + behind, head.length() > 1 ? 2 : 1);
            for (int figure = size; figure <= 9; figure++) {
                faultDue(before + figure + behind, before.length());
            }
        }
    }

    private void faultOfTooManyOrTooFew() {
        checks.sentence("part 1: FAULT: too many, ; behind too few");
        for (int n = 1; n <= 4; n++) {
            manyAndFew("n" + n + ";f", n * n);
            manyAndFew("n" + n + ";g", n);
        }
        manyAndFew("f", 4);
        manyAndFew("g", 2);
        faultDue("n;", 1);
        faultDue("n11;", 2);
    }

    private void manyAndFew(String head, int due) {
        for (int few = 0; few < due; few++) {
            faultDue(head + figures(few, 0) + ";", head.length() + few);
        }
        itemsDue(head + figures(due, 0) + ";", head.length() > 1 ? 2 : 1);
        faultDue(head + figures(due + 1, 0) + ";", head.length() + due);
        faultDue(head + figures(due + 2, 0) + ";", head.length() + due);
    }

    private void faultOfTextThatEndsTooEarly() {
        checks.sentence("part 1: FAULT: the text's length, if it ends too early");
        String text = "n3; f 012 120 201; g 021;";
        int items = 0;
        for (int length = 0; length <= text.length(); length++) {
            String start = text.substring(0, length);
            items += start.endsWith(";") ? 1 : 0;
            boolean whole = start.isBlank() || start.trim().endsWith(";");
            for (int blanks = 0; blanks <= 2; blanks++) {
                String told = start + " ".repeat(blanks);
                if (whole) {
                    itemsDue(told, items);
                } else {
                    faultDue(told, told.length());
                }
            }
        }
    }

    private void toldAgain() {
        checks.sentence("part 1: (f, g told again are as told last.)");
        AlgebraLaws a = new AlgebraLaws();
        due("six items", Checks.tells(a, "f0001;g10;f1111;g00;f1110;g11;"), 6);
        due("f", a.f(0, 0) * 1000 + a.f(0, 1) * 100 + a.f(1, 0) * 10 + a.f(1, 1), 1110);
        due("g", a.g(0) * 10 + a.g(1), 11);
        due("a fault in what is told again", Checks.tells(a, "f0000;f0;"), -18);
        due("leaves f", a.f(0, 0), 1);
    }

    private void readAnew() {
        checks.sentence("part 3: (Read anew: as told, else as at first; nothing can be UNDONE, nothing SEEN, IMAGES are gone.)");
        for (String text : new String[] {"", " ", "n3;", "n3;f012120201;g021;", "g10;"}) {
            AlgebraLaws a = Checks.of("n3;f012120201;g021;");
            a.sets(0, 0, 1);
            a.sets(0, -1, 1);
            a.sees(4);
            a.keep(0);
            a.keep(1);
            due("'" + text + "' is told", Checks.tells(a, text) >= 0 ? 1 : 0, 1);
            due("f as told or at first", a.f(0, 0), 0);
            due("g as told or at first", a.g(0), text.equals("g10;") ? 1 : 0);
            due("undo", a.undo(), STATE);
            due("what may be undone", a.count(8), 0);
            due("seen", a.count(6), 0);
            due("forget", a.forget(), 0);
            due("image 0", a.back(0), STATE);
            due("image 1", a.back(1), STATE);
        }
    }

    private void promise1NewObject() {
        checks.sentence("promise 1: As told.");
        AlgebraLaws a = new AlgebraLaws();
        due("size", a.count(0), 2);
        due("seen", a.count(6), 0);
        due("letters", a.count(7), 0);
        due("what may be undone", a.count(8), 0);
        due("undo", a.undo(), STATE);
        due("image 0", a.back(0), STATE);
        due("image 1", a.back(1), STATE);
        due("clear", a.clear(), 0);
        due("forget", a.forget(), 0);
        AlgebraLaws other = new AlgebraLaws();
        other.sets(0, 0, 1);
        other.type('x');
        other.sees(3);
        other.keep(0);
        due("one object is not another: f", a.f(0, 0), 0);
        due("one object is not another: letters", a.count(7), 0);
        due("one object is not another: seen", a.count(6), 0);
        due("one object is not another: images", a.back(0), STATE);
    }

    private void promise2Type() {
        checks.sentence("promise 2: A letter (0 .. 255) comes to THE TEXT: how many it has. BAD; FULL: 60.");
        AlgebraLaws a = new AlgebraLaws();
        for (int wrong : new int[] {-1, 256, 257, 65536 + 'n', Integer.MIN_VALUE, Integer.MAX_VALUE}) {
            due("letter " + wrong, a.type(wrong), BAD);
        }
        due("nothing came", a.count(7), 0);
        due("the first", a.type(0), 1);
        due("the last", a.type(255), 2);
        for (int n = 3; n <= MOST; n++) {
            due("one more", a.type(n), n);
        }
        due("the 61st", a.type('n'), FULL);
        due("the 61st again", a.type(0), FULL);
        due("a wrong one ahead of FULL, low", a.type(-1), BAD);
        due("a wrong one ahead of FULL, high", a.type(256), BAD);
        due("there are sixty", a.count(7), MOST);
        a.clear();
        due("there is room again", a.type('n'), 1);
        Checks.tells(a, " ".repeat(MOST));
        due("there is room behind tables()", a.type('n'), 1);
    }

    private void promise3Clear() {
        checks.sentence("promise 3: THE TEXT is empty: how many letters it had.");
        AlgebraLaws a = new AlgebraLaws();
        due("empty", a.clear(), 0);
        due("empty again", a.clear(), 0);
        a.type('n');
        due("one", a.clear(), 1);
        Checks.types(a, "x".repeat(MOST + 5));
        due("full", a.clear(), MOST);
        due("none", a.count(7), 0);
        due("an empty text is told", a.tables(), 0);
        Checks.types(a, "n3;");
        a.sets(0, 0, 1);
        a.sees(4);
        a.keep(1);
        due("three", a.clear(), 3);
        due("f stays", a.f(0, 0), 1);
        due("what may be undone stays", a.count(8), 1);
        due("what was seen stays", a.count(6), 1);
        due("the image stays", a.back(1), 2);
    }

    private void promise4Tables() {
        checks.sentence("promise 4: THE TEXT tells all anew, and is empty then: how many ITEMS. -10 less FAULT: nothing changes.");
        AlgebraLaws a = new AlgebraLaws();
        due("an empty text", a.tables(), 0);
        due("a fault at the first place", Checks.tells(a, "x"), -10);
        due("a fault behind the last place", Checks.tells(a, "n4;f" + " ".repeat(MOST - 4)), -10 - MOST);
        Checks.tells(a, "n3;g021");
        due("the text stays", a.count(7), 7);
        due("it is told again", a.tables(), -17);
        due("it goes on", a.type(';'), 8);
        due("then it is whole", a.tables(), 2);
        due("it is empty then", a.count(7), 0);
        due("size", a.count(0), 3);
        due("g", a.g(1), 2);
        due("the empty text tells anew, too", a.tables(), 0);
        due("size 2", a.count(0), 2);
        due("g at first", a.g(1), 1);
        a = Checks.of("n3;f111111111;g000;");
        due("a fault at the end of a text that would change all", Checks.tells(a, "n4;f0123123023013012;g0321;x"), -37);
        due("size stays", a.count(0), 3);
        due("f stays", a.f(0, 0) * 10 + a.f(2, 2), 11);
        due("g stays", a.g(1) * 10 + a.g(2), 0);
    }
}
