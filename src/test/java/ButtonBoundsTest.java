/** The bounds of buttons in their row, of weights and kinds (promises 6, 7, 13), a test a sentence. */
final class ButtonBoundsTest {
    private static final String FOUR = "bone 5 10;brass 4 20;pearl 9 99;loose 1 0";
    private static final String SEVEN = "bone 9 1;brass 8 2;pearl 7 3;loose 6 4;bone 5 5;brass 3 6;pearl 1 7";

    private ButtonBoundsTest() {
    }

    static void run() {
        familyWhats();
        familyOfNoSuch();
        familyRefusalsInOrder();
        familyHealthBounds();
        familyDoneUpOfFrozen();
        familyDoneUpWithoutFrozen();
        familyFavoursOfFrozen();
        familyWeightOfFrozen();
        weightsByDayAndNight();
        asKinds();
        asOfNoSuch();
        asRefusalsInOrder();
        asDoesNotDependOnTheDay();
        warmHalfCut();
        warmAtTheEndsOfTheRow();
        warmEmptyAndFull();
        warmOfFrozen();
        warmOfNoSuch();
    }

    /** Family 1 is FROZEN on DAY 1, one vote is SEEN, something is kept and can be undone. */
    private static ParishCoat withOneFrozen() {
        ParishCoat x = Check.told(FOUR + ";favour 0 2;favour 1 2;favour 3 0;quota 1;cold 23;cold 3");
        Check.due("day(1)", x.day(1), 2);
        x.keep(1);
        x.seen(6, 1, 1);
        Check.write(x, "mild");
        return x;
    }

    private static void familyWhats() {
        Check.part("Promise 6: what 0 .. 6, 'OUTSIDE'");
        Still still = new Still(ButtonBoundsTest::withOneFrozen);
        int[][] due = {{0, 5, 10, 16, 4, 9, 1}, {1, 4, 20, 0, 4, 0, 2}, {2, 9, 99, 16, 0, 5, 2}, {3, 1, 0, 16, 1, 8, 0}};
        for (int f = 0; f < 4; f++) {
            int g = f;
            for (int what = 0; what < 7; what++) {
                int w = what;
                still.due("family(" + f + ", " + what + ")", x -> x.family(g, w), due[f][what]);
            }
            for (int what : new int[] {-1, 7, -2, 8, 32, 64, Integer.MIN_VALUE, Integer.MAX_VALUE}) {
                still.due("family(" + f + ", " + what + ")", x -> x.family(g, what), -3);
            }
        }
    }

    private static void familyOfNoSuch() {
        Check.part("Promise 6: 'UNKNOWN' (no such FAMILY)");
        Still still = new Still(ButtonBoundsTest::withOneFrozen);
        for (int f : new int[] {-1, 4, -2, 5, 6, 7, 8, 31, 32, 36, Integer.MIN_VALUE, Integer.MAX_VALUE}) {
            for (int what = 0; what < 7; what++) {
                int w = what;
                still.due("family(" + f + ", " + what + ")", x -> x.family(f, w), -2);
            }
        }
        ParishCoat full = Check.told(SEVEN);
        Check.due("the seventh", full.family(6, 2), 7);
        Check.due("an eighth", full.family(7, 2), -2);
    }

    private static void familyRefusalsInOrder() {
        Check.part("Promise 6: UNKNOWN ahead of OUTSIDE");
        Still still = new Still(ButtonBoundsTest::withOneFrozen);
        for (int f : new int[] {-1, 4, Integer.MIN_VALUE, Integer.MAX_VALUE}) {
            for (int what : new int[] {-1, 7, Integer.MIN_VALUE, Integer.MAX_VALUE}) {
                still.due("family(" + f + ", " + what + ")", x -> x.family(f, what), -2);
            }
        }
    }

    private static void familyHealthBounds() {
        Check.part("Promise 6: HEALTH, 20 at first and at most, 0 of a FROZEN one");
        ParishCoat x = Check.told("bone 9 1;bone 9 1;quota 1;cold 5");
        for (int day = 0; day < 20; day++) {
            Check.due("HEALTH on day " + day, x.family(1, 3), 20 - day);
            x.day(-1);
        }
        Check.due("HEALTH of the FROZEN", x.family(1, 3), 0);
        Check.due("FROZEN", x.count(5), 3);
    }

    private static void familyDoneUpOfFrozen() {
        Check.part("Promise 6: '5; it is FROZEN: 0'");
        ParishCoat x = Check.told("bone 9 1;bone 9 1;bone 9 1;favour 0 1;favour 2 0;quota 1;cold 40;cold 0");
        Check.due("before", x.family(0, 5), 5);
        Check.due("31 are wanting", x.day(0), 1);
        Check.due("FROZEN, though 2 favours him", x.family(0, 5), 0);
        x.undo();
        Check.due("not any more", x.family(0, 5), 5);
    }

    private static void familyDoneUpWithoutFrozen() {
        Check.part("Terms: 'DONE UP for one are he himself and those who FAVOUR him, without the FROZEN'");
        ParishCoat x = Check.told("bone 9 1;bone 9 1;bone 9 1;favour 0 1;favour 2 1;favour 1 0;quota 1;cold 30");
        Check.due("for 1", x.family(1, 5), 7);
        Check.due("for 0", x.family(0, 5), 3);
        Check.due("for 2, whom nobody favours", x.family(2, 5), 4);
        Check.due("day(2)", x.day(2), 4);
        Check.due("for 1, without 2", x.family(1, 5), 3);
        Check.due("2 favours still", x.family(2, 4), 2);
    }

    private static void familyFavoursOfFrozen() {
        Check.part("Promise 6: 'whom it FAVOURS, by bits (4)', FROZEN ones, too");
        ParishCoat x = Check.told("bone 1 1;bone 1 1;bone 1 1;favour 0 1;favour 0 2;favour 2 1;favour 1 0;quota 1;cold 40");
        Check.due("day(1)", x.day(1), 2);
        Check.due("0 favours the FROZEN one still", x.family(0, 4), 6);
        Check.due("so does 2", x.family(2, 4), 2);
        Check.due("the FROZEN one favours 0 still", x.family(1, 4), 1);
    }

    private static void familyWeightOfFrozen() {
        Check.part("Promise 6: WEIGHT on this DAY (6), of a FROZEN one, too");
        ParishCoat x = withOneFrozen();
        Check.due("brass by night", x.family(1, 6), 2);
        x.day(-1);
        Check.due("brass by day", x.family(1, 6), 1);
    }

    private static void weightsByDayAndNight() {
        Check.part("Terms: 'WEIGHT of a BUTTON', DAY 0 is even");
        ParishCoat x = Check.told(FOUR + ";cold 0");
        int[][] due = {{1, 1, 2, 1}, {1, 2, 2, 0}};
        for (int day = 0; day < 9; day++) {
            for (int f = 0; f < 4; f++) {
                Check.due("WEIGHT of " + f + " on day " + day, x.family(f, 6), due[day % 2][f]);
            }
            x.day(-1);
        }
    }

    private static void asKinds() {
        Check.part("Promise 7: 'a KIND (0 .. 4 ..)', 'NOT: it is none such', 'OUTSIDE'");
        Still still = new Still(ButtonBoundsTest::withOneFrozen);
        int[][] due = {{11, 11, -4, -4, -4}, {12, 12, 12, -4, -4}, {22, 22, -4, 22, -4}, {10, -4, -4, -4, 10}};
        for (int f = 0; f < 4; f++) {
            int g = f;
            for (int kind = 0; kind < 5; kind++) {
                int k = kind;
                still.due("as(" + f + ", " + kind + ")", x -> x.as(g, k), due[f][kind]);
            }
            for (int kind : new int[] {-1, 5, -2, 6, Integer.MIN_VALUE, Integer.MAX_VALUE}) {
                still.due("as(" + f + ", " + kind + ")", x -> x.as(g, kind), -3);
            }
        }
    }

    private static void asOfNoSuch() {
        Check.part("Promise 7: 'UNKNOWN'");
        Still still = new Still(ButtonBoundsTest::withOneFrozen);
        for (int f : new int[] {-1, 4, 7, Integer.MIN_VALUE, Integer.MAX_VALUE}) {
            for (int kind = 0; kind < 5; kind++) {
                int k = kind;
                still.due("as(" + f + ", " + kind + ")", x -> x.as(f, k), -2);
            }
        }
        Check.due("of none", new ParishCoat().as(0, 0), -2);
    }

    private static void asRefusalsInOrder() {
        Check.part("Promise 7: UNKNOWN ahead of OUTSIDE");
        Still still = new Still(ButtonBoundsTest::withOneFrozen);
        for (int f : new int[] {-1, 4, Integer.MIN_VALUE, Integer.MAX_VALUE}) {
            for (int kind : new int[] {-1, 5, Integer.MIN_VALUE, Integer.MAX_VALUE}) {
                still.due("as(" + f + ", " + kind + ")", x -> x.as(f, kind), -2);
            }
        }
    }

    private static void asDoesNotDependOnTheDay() {
        Check.part("Promise 7: 'WEIGHT by day, and WEIGHT by night', whatever DAY it is");
        ParishCoat x = Check.told(FOUR + ";cold 40");
        for (int day = 0; day < 4; day++) {
            Check.due("brass", x.as(1, 2), 12);
            Check.due("loose", x.as(3, 4), 10);
            x.day(-1);
        }
        Check.due("all are FROZEN", x.count(5), 15);
        Check.due("a FROZEN one's", x.as(2, 1), 22);
    }

    private static void warmHalfCut() {
        Check.part("Terms: 'its WARMTH, half of that, cut, if neither BUTTON beside it .. is of the SET'");
        for (int warmth = 1; warmth <= 9; warmth++) {
            ParishCoat x = Check.told("bone " + warmth + " 1;bone 2 1;bone " + warmth + " 1");
            Check.due("alone " + warmth, x.warm(1), warmth / 2);
            Check.due("beside one behind", x.warm(3), warmth + 2);
            Check.due("beside one ahead", x.warm(6), warmth + 2);
            Check.due("both beside the one between", x.warm(7), 2 * warmth + 2);
            Check.due("each is alone, and cut by itself", x.warm(5), 2 * (warmth / 2));
        }
    }

    private static void warmAtTheEndsOfTheRow() {
        Check.part("Terms: '(one less, one more)', the row's ends have one beside them");
        ParishCoat x = Check.told("bone 9 1;bone 9 1;bone 9 1;bone 9 1;bone 9 1;bone 9 1;bone 9 1");
        Check.due("the first and the last are not side by side", x.warm(65), 8);
        Check.due("the first alone", x.warm(1), 4);
        Check.due("the last alone", x.warm(64), 4);
        Check.due("the first two", x.warm(3), 18);
        Check.due("the last two", x.warm(96), 18);
        Check.due("every second one", x.warm(85), 16);
        Check.due("the others", x.warm(42), 12);
        for (int f = 0; f < 6; f++) {
            Check.due("two from " + f, x.warm(3 << f), 18);
        }
        ParishCoat one = Check.told("bone 9 1");
        Check.due("a row of one", one.warm(1), 4);
    }

    private static void warmEmptyAndFull() {
        Check.part("Promise 13: the empty SET, the SET of all");
        Check.due("of no families", new ParishCoat().warm(0), 0);
        ParishCoat x = Check.told(SEVEN);
        Check.due("nobody", x.warm(0), 0);
        Check.due("all", x.warm(127), 39);
        Check.due("all but the first", x.warm(126), 30);
        Check.due("all but the last", x.warm(63), 38);
    }

    private static void warmOfFrozen() {
        Check.part("Promise 13: 'FROZEN ones, too'");
        ParishCoat x = withOneFrozen();
        Check.due("FROZEN", x.count(5), 2);
        Check.due("a FROZEN one alone", x.warm(2), 2);
        Check.due("and beside others", x.warm(7), 18);
        Check.due("all", x.warm(15), 19);
    }

    private static void warmOfNoSuch() {
        Check.part("Promise 13: 'UNKNOWN' (a SET with such)");
        Still still = new Still(ButtonBoundsTest::withOneFrozen);
        for (int set = 0; set < 16; set++) {
            Check.due("warm(" + set + ") is known", withOneFrozen().warm(set) >= 0 ? 1 : 0, 1);
        }
        for (int set : new int[] {16, 17, 31, 32, 64, 128, -1, -16, -17, 1 << 30, Integer.MIN_VALUE, Integer.MIN_VALUE + 1,
            Integer.MAX_VALUE}) {
            still.due("warm(" + set + ")", x -> x.warm(set), -2);
        }
        ParishCoat full = Check.told(SEVEN);
        Check.due("a SET with an eighth", full.warm(128), -2);
        Check.due("a SET with all and an eighth", full.warm(255), -2);
        Check.due("-1", full.warm(-1), -2);
        Check.due("-128", full.warm(-128), -2);
    }
}
