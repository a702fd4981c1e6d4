/** What the tests share: counting answers that are not as due, and telling a whole text. */
final class Checks {
    private int made;
    private int wrong;

    void due(String what, long got, long want) {
        made++;
        if (got != want) {
            wrong++;
            if (wrong <= 40) {
                System.out.println(what + " answered " + got + ", due is " + want);
            }
        }
    }

    void isTrue(String what, boolean so) {
        due(what, so ? 1 : 0, 1);
    }

    boolean anyWrong() {
        return wrong > 0;
    }

    void end() {
        System.out.println(made + " checks, " + wrong + " wrong");
        if (wrong > 0 || made == 0) {
            System.exit(1);
        }
    }

    static void types(AlgebraLaws a, String text) {
        for (int i = 0; i < text.length(); i++) {
            a.type(text.charAt(i));
        }
    }

    /** What tables() answers to the text alone. */
    static int tells(AlgebraLaws a, String text) {
        a.clear();
        types(a, text);
        return a.tables();
    }

    static AlgebraLaws of(String text) {
        AlgebraLaws a = new AlgebraLaws();
        if (tells(a, text) < 0) {
            throw new IllegalArgumentException(text);
        }
        return a;
    }
}
