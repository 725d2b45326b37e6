import java.util.function.Consumer;

/** Every call with every number near a bound, in states at their bounds; each answer is due as PlainParish has it. */
final class GridTest {
    private static final int[] NUMBERS = {Integer.MIN_VALUE, Integer.MIN_VALUE + 1, -129, -128, -8, -7, -6, -5, -4, -3, -2,
        -1, 0, 1, 2, 3, 4, 5, 6, 7, 8, 9, 10, 11, 12, 15, 16, 20, 21, 31, 32, 33, 40, 63, 64, 127, 128, 159, 160, 161,
        255, 256, 257, 999, 1000, 65536, 1 << 30, Integer.MAX_VALUE - 1, Integer.MAX_VALUE};
    private static final int[] FEW = {Integer.MIN_VALUE, -2, -1, 0, 1, 2, 3, 6, 7, 8, 10, 11, Integer.MAX_VALUE};
    private static final String SEVEN = "bone 9 99;brass 8 0;pearl 7 7;loose 6 7;bone 5 1;brass 2 0;pearl 1 50";

    private final ParishCoat x = new ParishCoat();
    private final PlainParish plain = new PlainParish();
    private final String state;

    private GridTest(String state, String text) {
        this.state = state;
        if (!text.isEmpty()) {
            write(text);
            due("coat()", x.coat(), plain.coat());
        }
    }

    static void run() {
        Check.part("grid");
        inState("no coat", "", grid -> { });
        inState("seven", SEVEN + ";favour 0 6;favour 6 0;favour 1 0;quota 3;cold 40", grid -> grid.day(-1));
        inState("one FROZEN", "bone 9 1;brass 9 2;pearl 9 3;favour 0 2;quota 1;cold 24;cold 8", grid -> grid.day(1));
        inState("all FROZEN", SEVEN + ";cold 40", grid -> {
            for (int day = 0; day < 3; day++) {
                grid.day(-1);
            }
        });
        inState("full", "coat;" + SEVEN + ";cold 0;cold 40;cold 5;cold 4;cold 39;cold 1", grid -> {
            for (int i = 0; i < 9; i++) {
                grid.day(-1);
                grid.due("seen(127, 0, 1)", grid.x.seen(127, 0, 1), grid.plain.seen(127, 0, 1));
            }
            grid.due("keep(0)", grid.x.keep(0), grid.plain.keep(0));
            grid.due("keep(1)", grid.x.keep(1), grid.plain.keep(1));
            grid.write(" ".repeat(156) + "mild");
        });
    }

    private static void inState(String state, String text, Consumer<GridTest> makeIt) {
        for (int part = 0; part < 3; part++) {
            GridTest grid = new GridTest(state, text);
            makeIt.accept(grid);
            switch (part) {
                case 0 -> grid.questions();
                case 1 -> grid.votes();
                default -> grid.changes();
            }
            grid.counts();
        }
    }

    private void due(String call, int got, int want) {
        Check.due(state + ": " + call, got, want);
    }

    private void write(String text) {
        for (char c : text.toCharArray()) {
            due("write(" + (int) c + ")", x.write(c), plain.write(c));
        }
    }

    private void day(int f) {
        due("day(" + f + ")", x.day(f), plain.day(f));
    }

    private void counts() {
        for (int what : NUMBERS) {
            due("count(" + what + ")", x.count(what), plain.count(what));
        }
        due("quotas()", x.quotas(), plain.quotas());
        due("fault()", x.fault(), plain.fault());
    }

    private void questions() {
        for (int a : NUMBERS) {
            due("warm(" + a + ")", x.warm(a), plain.warm(a));
            due("carried(" + a + ")", x.carried(a), plain.carried(a));
            due("swings(" + a + ")", x.swings(a), plain.swings(a));
            due("block(" + a + ")", x.block(a), plain.block(a));
            due("wrong(" + a + ")", x.wrong(a), plain.wrong(a));
            for (int b : NUMBERS) {
                String numbers = "(" + a + ", " + b + ")";
                due("family" + numbers, x.family(a, b), plain.family(a, b));
                due("as" + numbers, x.as(a, b), plain.as(a, b));
                due("fewest" + numbers, x.fewest(a, b), plain.fewest(a, b));
                due("win" + numbers, x.win(a, b), plain.win(a, b));
                if (a <= 2 || a > 4) {
                    due("turns" + numbers, x.turns(a, b), plain.turns(a, b));
                }
            }
            for (int part : FEW) {
                due("lot(" + a + ", " + part + ")", x.lot(a, part), plain.lot(a, part));
            }
        }
        frosts();
    }

    private void frosts() {
        for (int n : FEW) {
            for (int k : FEW) {
                for (int q : FEW) {
                    for (int part : FEW) {
                        due("frosts(" + n + ", " + k + ", " + q + ", " + part + ")",
                            x.frosts(n, k, q, part), plain.frosts(n, k, q, part));
                    }
                }
            }
        }
    }

    private void votes() {
        for (int set : NUMBERS) {
            for (int night : FEW) {
                for (int carried : FEW) {
                    due("seen(" + set + ", " + night + ", " + carried + ")",
                        x.seen(set, night, carried), plain.seen(set, night, carried));
                }
            }
        }
        due("quotas()", x.quotas(), plain.quotas());
        due("forget()", x.forget(), plain.forget());
        due("forget()", x.forget(), plain.forget());
    }

    private void changes() {
        for (int a : NUMBERS) {
            due("write(" + a + ")", x.write(a), plain.write(a));
            due("keep(" + a + ")", x.keep(a), plain.keep(a));
            for (int b : FEW) {
                for (int on : FEW) {
                    due("favour(" + a + ", " + b + ", " + on + ")", x.favour(a, b, on), plain.favour(a, b, on));
                }
            }
            day(a);
            due("undo()", x.undo(), plain.undo());
            due("back(" + a + ")", x.back(a), plain.back(a));
            due("undo()", x.undo(), plain.undo());
        }
        due("coat()", x.coat(), plain.coat());
        due("erase()", x.erase(), plain.erase());
    }
}
