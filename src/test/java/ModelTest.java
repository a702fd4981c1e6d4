import java.util.Random;

/** Holds the class against the model: all algebras of two, and runs of chance calls with chance tables. */
public final class ModelTest {
    private static final int RUNS = 1500;
    private static final int CALLS = 512;

    private final Checks checks = new Checks();
    private final Random random = new Random(20261118);
    private AlgebraLaws real;
    private Model model;
    private StringBuilder run;
    private int calls;

    public static void main(String[] args) {
        ModelTest test = new ModelTest();
        test.allOfTwo();
        for (int i = 0; i < RUNS && !test.checks.anyWrong(); i++) {
            test.chanceRun(i % 10 == 0);
        }
        test.checks.end();
    }

    private void begin() {
        real = new AlgebraLaws();
        model = new Model();
        run = new StringBuilder();
        calls = 0;
    }

    private void allOfTwo() {
        for (int way = 0; way < 64; way++) {
            begin();
            StringBuilder text = new StringBuilder("f");
            for (int i = 0; i < 6; i++) {
                text.append(i == 4 ? ";g" : "").append(way >> i & 1);
            }
            tell(text.append(';').toString());
            for (int i = 0; i < 9; i++) {
                call("count", i);
            }
            for (int i = 0; i < 7; i++) {
                call("law", i);
                call("change", i);
            }
            for (int i = 0; i < 4; i++) {
                call("made", i);
                call("closed", i);
                call("free", 1 + i / 2, i % 2);
                call("term", i);
                for (int j = 0; j < 16; j++) {
                    call("pair", j / 4 % 2, j % 2, i);
                }
            }
        }
    }

    private void chanceRun(boolean withTerms) {
        begin();
        while (calls < CALLS && !checks.anyWrong()) {
            int kind = random.nextInt(100);
            if (kind < 6) {
                tell(chanceText());
            } else if (kind < 8) {
                call(random.nextBoolean() ? "clear" : "tables");
            } else if (kind < 10) {
                call("type", random.nextInt(3) == 0 ? random.nextInt(300) - 20 : "nfg01;  ".charAt(random.nextInt(8)));
            } else if (kind < 11) {
                changeMuch();
            } else if (kind < 30) {
                change();
            } else if (kind < 34) {
                call(random.nextInt(3) == 0 ? "back" : "keep", number(2));
            } else if (kind < 36) {
                see();
            } else if (kind < 37 && withTerms) {
                askTerms();
            } else {
                ask();
            }
        }
    }

    /** Mostly less than the bound, now and then a wrong one. */
    private int number(int bound) {
        int[] odd = {-1, -2, bound, bound + 1, 16, 100, Integer.MAX_VALUE, Integer.MIN_VALUE};
        return random.nextInt(40) == 0 ? odd[random.nextInt(odd.length)] : random.nextInt(Math.max(1, bound));
    }

    private void change() {
        int n = model.count(0);
        if (random.nextInt(3) == 0) {
            call("undo");
        } else {
            call("sets", number(n), random.nextInt(4) == 0 ? -1 : number(n), number(n));
        }
    }

    /** More changes than are known, and more undone than can be. */
    private void changeMuch() {
        int n = model.count(0);
        for (int i = 10 + random.nextInt(10); i > 0; i--) {
            call("sets", number(n), number(n + 1) - 1, number(n));
        }
        for (int i = random.nextInt(15); i > 0; i--) {
            call("undo");
            call("f", number(n), number(n));
        }
    }

    private void see() {
        if (random.nextInt(6) == 0) {
            call("forget");
        } else {
            call("sees", random.nextInt(3) == 0 ? number(17) : model.count(1));
        }
        call("unseen");
    }

    private void askTerms() {
        call("free", number(2) + 1, number(2));
        call("term", number(2));
    }

    private void ask() {
        int n = model.count(0);
        switch (random.nextInt(12)) {
            case 0 -> call("f", number(n), number(n));
            case 1 -> call("g", number(n));
            case 2 -> call("made", number(1 << n));
            case 3 -> call("closed", number(8));
            case 4 -> call("law", number(7));
            case 5 -> call("change", number(7));
            case 6 -> call("congruence", number(6));
            case 7 -> call("principal", number(n), number(n));
            case 8 -> call("unseen");
            case 9 -> call("count", number(9));
            default -> {
                int many = model.count(2);
                call("pair", number(many), number(many), number(4));
            }
        }
    }

    private void tell(String text) {
        if (random.nextInt(10) != 0) {
            call("clear");
        }
        for (int i = 0; i < text.length(); i++) {
            call("type", text.charAt(i));
        }
        call("tables");
    }

    private String chanceText() {
        StringBuilder text = new StringBuilder();
        int size = 2;
        if (random.nextInt(8) != 0) {
            size = 1 + random.nextInt(4);
            if (size < 3 && random.nextInt(3) != 0) {
                size += 2;
            }
            text.append('n').append(size).append(';');
        }
        int items = random.nextInt(4);
        for (int i = 0; i < items && text.length() < 38; i++) {
            text.append(i == 1 ? chanceG(size) : chanceF(size)).append(';');
        }
        if (text.length() < 30 && random.nextInt(3) == 0) {
            for (int i = random.nextInt(12); i > 0; i--) {
                text.insert(random.nextInt(text.length() + 1), ' ');
            }
        }
        if (random.nextInt(5) == 0) {
            spoil(text);
        }
        return text.toString();
    }

    private void spoil(StringBuilder text) {
        int at = random.nextInt(text.length() + 1);
        char letter = "nfg;0123459 x\t".charAt(random.nextInt(14));
        int way = random.nextInt(3);
        if (way == 0 || at == text.length()) {
            text.insert(at, letter);
        } else if (way == 1) {
            text.deleteCharAt(at);
        } else {
            text.setCharAt(at, letter);
        }
    }

    /** Tables of kinds that have many closed sets, congruences and maps, with a chance value here and there. */
    private String chanceF(int n) {
        int kind = random.nextInt(8);
        StringBuilder text = new StringBuilder("f");
        for (int x = 0; x < n; x++) {
            for (int y = 0; y < n; y++) {
                int[] kinds = {x, y, Math.min(x, y), Math.max(x, y), (x + y) % n, n == 4 ? x & y : 0,
                    n == 4 ? x ^ y : x, random.nextInt(n)};
                text.append(random.nextInt(14) == 0 ? random.nextInt(n) : kinds[kind]);
            }
        }
        return text.toString();
    }

    private String chanceG(int n) {
        int kind = random.nextInt(4);
        StringBuilder text = new StringBuilder("g");
        for (int x = 0; x < n; x++) {
            int[] kinds = {x, n - 1 - x, (n - x) % n, random.nextInt(n)};
            text.append(kinds[kind]);
        }
        return text.toString();
    }

    private void call(String name, int... with) {
        calls++;
        int got = switch (name) {
            case "type" -> real.type(with[0]);
            case "clear" -> real.clear();
            case "tables" -> real.tables();
            case "f" -> real.f(with[0], with[1]);
            case "g" -> real.g(with[0]);
            case "sets" -> real.sets(with[0], with[1], with[2]);
            case "undo" -> real.undo();
            case "made" -> real.made(with[0]);
            case "closed" -> real.closed(with[0]);
            case "law" -> real.law(with[0]);
            case "change" -> real.change(with[0]);
            case "congruence" -> real.congruence(with[0]);
            case "principal" -> real.principal(with[0], with[1]);
            case "pair" -> real.pair(with[0], with[1], with[2]);
            case "free" -> real.free(with[0], with[1]);
            case "term" -> real.term(with[0]);
            case "sees" -> real.sees(with[0]);
            case "forget" -> real.forget();
            case "unseen" -> real.unseen();
            case "keep" -> real.keep(with[0]);
            case "back" -> real.back(with[0]);
            default -> real.count(with[0]);
        };
        int want = switch (name) {
            case "type" -> model.type(with[0]);
            case "clear" -> model.clear();
            case "tables" -> model.tables();
            case "f" -> model.f(with[0], with[1]);
            case "g" -> model.g(with[0]);
            case "sets" -> model.sets(with[0], with[1], with[2]);
            case "undo" -> model.undo();
            case "made" -> model.made(with[0]);
            case "closed" -> model.closed(with[0]);
            case "law" -> model.law(with[0]);
            case "change" -> model.change(with[0]);
            case "congruence" -> model.congruence(with[0]);
            case "principal" -> model.principal(with[0], with[1]);
            case "pair" -> model.pair(with[0], with[1], with[2]);
            case "free" -> model.free(with[0], with[1]);
            case "term" -> model.term(with[0]);
            case "sees" -> model.sees(with[0]);
            case "forget" -> model.forget();
            case "unseen" -> model.unseen();
            case "keep" -> model.keep(with[0]);
            case "back" -> model.back(with[0]);
            default -> model.count(with[0]);
        };
        run.append(name);
        for (int w : with) {
            run.append(' ').append(w);
        }
        run.append(" -> ").append(got).append('\n');
        if (got != want) {
            System.out.print(run);
        }
        checks.due(name, got, want);
    }
}
