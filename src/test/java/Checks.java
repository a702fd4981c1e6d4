/** What the tests share: counting answers that are not as due, and telling a whole text. */
final class Checks {
    private int made;
    private int wrong;
    private String sentence = "";
    private int madeBefore;
    private int sentences;

    /** What is checked from here on: a sentence of the document, told with every answer that is wrong. */
    void sentence(String words) {
        closeSentence();
        sentence = words;
        sentences++;
        madeBefore = made;
    }

    /** A sentence that nothing was checked for has no test. */
    private void closeSentence() {
        if (sentences > 0 && made == madeBefore) {
            wrong++;
            System.out.println("nothing was checked for: " + sentence);
        }
    }

    void due(String what, long got, long want) {
        made++;
        if (got != want) {
            wrong++;
            if (wrong <= 40) {
                System.out.println(
                    sentence + (sentence.isEmpty() ? "" : " | ") + what + " answered " + got + ", due is " + want);
            }
        }
    }

    void isTrue(String what, boolean so) {
        due(what, so ? 1 : 0, 1);
    }

    boolean anyWrong() {
        return wrong > 0;
    }

    void end() {
        closeSentence();
        System.out.println((sentences > 0 ? sentences + " sentences, " : "") + made + " checks, " + wrong + " wrong");
        if (wrong > 0 || made == 0) {
            System.exit(1);
        }
    }

    static void types(AlgebraLaws a, String text) {
        for (int i = 0; i < text.length(); i++) {
            a.type(text.charAt(i));
        }
    }

    /** What tables() answers to the text alone. */
    static int tells(AlgebraLaws a, String text) {
        a.clear();
        types(a, text);
        return a.tables();
    }

    static AlgebraLaws of(String text) {
        AlgebraLaws a = new AlgebraLaws();
        if (tells(a, text) < 0) {
            throw new IllegalArgumentException(text);
        }
        return a;
    }
}
