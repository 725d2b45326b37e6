import java.util.Random;

/** Random runs of calls, of which each answer is due as PlainParish has it. */
final class RandomRunsTest {
    private static final String[] WORDS = {"coat", "bone", "brass", "pearl", "loose", "favour", "feud", "quota",
        "cold", "mild", "button", "Bone", ";", ".", "\u00ff"};
    private final Random random;
    private ParishCoat x;
    private PlainParish plain;
    private String run;

    private RandomRunsTest(long seed) {
        random = new Random(seed);
    }

    static void run() {
        Check.part("random runs");
        for (int seed = 0; seed < 600; seed++) {
            new RandomRunsTest(seed).oneRun("run " + seed);
        }
        for (int seed = 0; seed < 4000; seed++) {
            new RandomRunsTest(seed).oneText("text " + seed);
        }
    }

    private void begin(String name) {
        x = new ParishCoat();
        plain = new PlainParish();
        run = name;
    }

    private void oneRun(String name) {
        begin(name);
        tell(goodText());
        int failed = Check.failed;
        for (int i = 0; i < 300 && Check.failed == failed; i++) {
            call();
        }
    }

    private void oneText(String name) {
        begin(name);
        for (int i = 0; i < 3; i++) {
            tell(random.nextBoolean() ? spoilt(goodText()) : anyText());
            if (random.nextInt(3) > 0) {
                due("erase()", x.erase(), plain.erase());
            }
        }
    }

    private void due(String call, int got, int want) {
        Check.due(run + " " + call, got, want);
    }

    private void tell(String text) {
        for (char c : text.toCharArray()) {
            due("write(" + (int) c + ")", x.write(c), plain.write(c));
        }
        due("fault() of \"" + text + "\"", x.fault(), plain.fault());
        due("coat() of \"" + text + "\"", x.coat(), plain.coat());
        for (int what = 0; what < 10; what++) {
            due("count(" + what + ")", x.count(what), plain.count(what));
        }
    }

    private String goodText() {
        StringBuilder text = new StringBuilder();
        int before = plain.count(0);
        int families = random.nextInt(8 - before);
        for (int f = 0; f < families; f++) {
            text.append(WORDS[1 + random.nextInt(4)]).append(' ').append(1 + random.nextInt(9)).append(' ')
                .append(random.nextInt(3) == 0 ? random.nextInt(3) : random.nextInt(100)).append(';');
        }
        int all = before + families;
        for (int i = 0; all > 1 && i < 4; i++) {
            int a = random.nextInt(all);
            text.append("favour ").append(a).append(' ').append((a + 1 + random.nextInt(all - 1)) % all).append(';');
        }
        for (int i = random.nextInt(3); i > 0 && plain.count(4) + i < 6; i--) {
            text.append("cold ").append(random.nextInt(random.nextBoolean() ? 41 : 12)).append(';');
        }
        return text.append("quota ").append(1 + random.nextInt(random.nextBoolean() ? 3 : 9)).toString();
    }

    private String spoilt(String text) {
        int at = random.nextInt(text.length());
        String spoil = switch (random.nextInt(4)) {
            case 0 -> "";
            case 1 -> " ";
            case 2 -> WORDS[random.nextInt(WORDS.length)];
            default -> String.valueOf(random.nextInt(120));
        };
        return text.substring(0, at) + spoil + text.substring(at + random.nextInt(2));
    }

    private String anyText() {
        StringBuilder text = new StringBuilder();
        for (int i = 2 + random.nextInt(30); i > 0; i--) {
            switch (random.nextInt(6)) {
                case 0 -> text.append(random.nextInt(110)).append(' ');
                case 1 -> text.append("; ");
                case 2 -> text.append(WORDS[random.nextInt(WORDS.length)]).append(' ');
                case 3 -> text.append("cold ").append(random.nextInt(45)).append(';');
                case 4 -> text.append("mild;");
                default -> text.append(WORDS[1 + random.nextInt(4)]).append(' ').append(random.nextInt(11))
                    .append(' ').append(random.nextInt(9)).append(';');
            }
        }
        return text.toString();
    }

    private int number(int from, int to) {
        if (random.nextInt(40) == 0) {
            return Check.WRONG_NUMBERS.get(random.nextInt(Check.WRONG_NUMBERS.size()));
        }
        return from + random.nextInt(to - from + 1);
    }

    private int familyNumber() {
        return number(0, Math.max(0, plain.count(0) - 1));
    }

    private int setNumber() {
        return number(0, (1 << plain.count(0)) - 1);
    }

    private void call() {
        switch (random.nextInt(5)) {
            case 0 -> callOfDays();
            case 1, 2 -> callOfForetold();
            case 3 -> callOfSeen();
            default -> callOfTold();
        }
    }

    private void callOfTold() {
        int f = familyNumber();
        int a = number(0, 6);
        int b = number(0, 4);
        switch (random.nextInt(40)) {
            case 0 -> due("erase()", x.erase(), plain.erase());
            case 1 -> due("write(" + a + ")", x.write(a), plain.write(a));
            case 2 -> due("fault()", x.fault(), plain.fault());
            case 3 -> tell(random.nextInt(3) == 0 ? "mild;coat;quota 5" : goodText());
            case 4, 5, 6, 7 -> due("as(" + f + ", " + b + ")", x.as(f, b), plain.as(f, b));
            default -> due("family(" + f + ", " + a + ")", x.family(f, a), plain.family(f, a));
        }
    }

    private void callOfDays() {
        int f = familyNumber();
        int g = familyNumber();
        int on = number(0, 1);
        int asker = random.nextInt(3) == 0 ? -1 : f;
        switch (random.nextInt(9)) {
            case 0, 1, 2 -> due("favour(" + f + ", " + g + ", " + on + ")", x.favour(f, g, on), plain.favour(f, g, on));
            case 3, 4, 5 -> due("day(" + asker + ")", x.day(asker), plain.day(asker));
            case 6 -> due("undo()", x.undo(), plain.undo());
            case 7 -> due("keep(" + on + ")", x.keep(on), plain.keep(on));
            default -> {
                if (random.nextInt(2) == 0) {
                    due("back(" + on + ")", x.back(on), plain.back(on));
                }
            }
        }
    }

    private void callOfForetold() {
        int f = familyNumber();
        int set = setNumber();
        int a = number(0, 3);
        int b = number(0, 1);
        switch (random.nextInt(9)) {
            case 0 -> due("warm(" + set + ")", x.warm(set), plain.warm(set));
            case 1 -> due("carried(" + f + ")", x.carried(f), plain.carried(f));
            case 2 -> due("fewest(" + f + ", " + a + ")", x.fewest(f, a), plain.fewest(f, a));
            case 3 -> due("swings(" + f + ")", x.swings(f), plain.swings(f));
            case 4 -> due("lot(" + f + ", " + b + ")", x.lot(f, b), plain.lot(f, b));
            case 5 -> due("win(" + f + ", " + b + ")", x.win(f, b), plain.win(f, b));
            case 6 -> due("block(" + f + ")", x.block(f), plain.block(f));
            case 7 -> due("wrong(" + f + ")", x.wrong(f), plain.wrong(f));
            default -> turns();
        }
    }

    /** Four days are dear to the plain one. */
    private void turns() {
        int n = random.nextInt(12) == 0 ? number(0, 4) : random.nextInt(3);
        for (int what = -1; what < 7; what++) {
            if (n < 3 || random.nextInt(3) == 0) {
                due("turns(" + n + ", " + what + ")", x.turns(n, what), plain.turns(n, what));
            }
        }
    }

    private void callOfSeen() {
        int set = setNumber();
        int a = number(0, 1);
        int b = number(0, 1);
        int n = number(0, 6);
        int k = number(0, 6);
        int q = number(0, 10);
        int what = number(0, 9);
        switch (random.nextInt(6)) {
            case 0 -> due("seen(" + set + ", " + a + ", " + b + ")", x.seen(set, a, b), plain.seen(set, a, b));
            case 1 -> due("quotas()", x.quotas(), plain.quotas());
            case 2 -> due("frosts(" + n + ", " + k + ", " + q + ", " + a + ")",
                x.frosts(n, k, q, a), plain.frosts(n, k, q, a));
            case 3 -> {
                if (random.nextInt(4) == 0) {
                    due("forget()", x.forget(), plain.forget());
                }
            }
            default -> due("count(" + what + ")", x.count(what), plain.count(what));
        }
    }
}
