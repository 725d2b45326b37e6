/** Promises 6 and 7: family, as. */
final class FamilyTest {
    private static final String FOUR = "bone 5 10;brass 4 20;pearl 9 99;loose 1 0";

    private FamilyTest() {
    }

    static void run() {
        told();
        favours();
        frozen();
        wrongOnes();
        as();
    }

    private static void told() {
        Check.part("6 family");
        ParishCoat x = Check.told(FOUR);
        int[][] due = {{0, 5, 10, 20}, {1, 4, 20, 20}, {2, 9, 99, 20}, {3, 1, 0, 20}};
        int[] byDay = {1, 1, 2, 1};
        int[] byNight = {1, 2, 2, 0};
        for (int f = 0; f < 4; f++) {
            for (int what = 0; what < 4; what++) {
                Check.due("family(" + f + ", " + what + ")", x.family(f, what), due[f][what]);
            }
            Check.due("weight by day of " + f, x.family(f, 6), byDay[f]);
        }
        x.day(-1);
        for (int f = 0; f < 4; f++) {
            Check.due("health after a day of " + f, x.family(f, 3), 19);
            Check.due("weight by night of " + f, x.family(f, 6), byNight[f]);
        }
        x.day(-1);
        Check.due("weight by day again", x.family(1, 6), 1);
    }

    private static void favours() {
        Check.part("6 favours");
        ParishCoat x = Check.told(FOUR + ";favour 0 3;favour 2 3;favour 3 0;favour 3 1");
        Check.due("whom 0 favours", x.family(0, 4), 8);
        Check.due("whom 1 favours", x.family(1, 4), 0);
        Check.due("whom 3 favours", x.family(3, 4), 3);
        Check.due("done up for 3", x.family(3, 5), 13);
        Check.due("done up for 1", x.family(1, 5), 10);
        Check.due("done up for 2", x.family(2, 5), 4);
    }

    private static void frozen() {
        Check.part("6 frozen");
        ParishCoat x = Check.told("bone 9 9;bone 9 9;bone 9 9;favour 0 1;favour 2 1;quota 1;cold 39");
        // The one who wears it alone wants 35 of warmth; the others have 7 less.
        Check.due("day(0)", x.day(0), 1);
        Check.due("frozen", x.family(0, 3), 0);
        Check.due("nobody is done up for a frozen one", x.family(0, 5), 0);
        Check.due("a frozen one favours still", x.family(0, 4), 2);
        Check.due("and is not done up", x.family(1, 5), 6);
        Check.due("its weight", x.family(0, 6), 1);
    }

    private static void wrongOnes() {
        Check.part("6 refusals");
        ParishCoat x = Check.told(FOUR);
        for (int number : Check.WRONG_NUMBERS) {
            Check.refused(x, "family(" + number + ", 0)", () -> x.family(number, 0), -2);
            Check.refused(x, "family(0, " + number + ")", () -> x.family(0, number), -3);
            Check.refused(x, "family(" + number + ", 9)", () -> x.family(number, 9), -2);
        }
        Check.refused(x, "family(4, 0)", () -> x.family(4, 0), -2);
    }

    private static void as() {
        Check.part("7 as");
        ParishCoat x = Check.told(FOUR);
        int[][] due = {{11, 11, -4, -4, -4}, {12, 12, 12, -4, -4}, {22, 22, -4, 22, -4}, {10, -4, -4, -4, 10}};
        for (int night = 0; night < 2; night++) {
            for (int f = 0; f < 4; f++) {
                for (int kind = 0; kind < 5; kind++) {
                    int g = f;
                    int k = kind;
                    Check.refused(x, "as(" + f + ", " + kind + ")", () -> x.as(g, k), due[f][kind]);
                }
            }
            x.day(-1);
        }
        for (int number : Check.WRONG_NUMBERS) {
            Check.refused(x, "as(" + number + ", 0)", () -> x.as(number, 0), -2);
            Check.refused(x, "as(" + number + ", 5)", () -> x.as(number, 5), -2);
            Check.refused(x, "as(0, " + number + ")", () -> x.as(0, number), -3);
        }
        Check.refused(x, "as(3, 5)", () -> x.as(3, 5), -3);
    }
}
