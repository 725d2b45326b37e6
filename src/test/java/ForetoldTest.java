/** Promises 13 to 21: warm, carried, fewest, swings, lot, win, block, wrong, turns. */
final class ForetoldTest {
    private static final String FIVE = "bone 5 10;brass 4 20;pearl 9 30;loose 7 5;bone 3 8;favour 0 1;favour 2 1;"
        + "favour 3 2;favour 1 2;quota 4;cold 15;cold 22";

    private ForetoldTest() {
    }

    static void run() {
        warm();
        carried();
        fewest();
        fewestFrozen();
        swings();
        lot();
        win();
        winPricesAlike();
        block();
        wrong();
        turns();
        turnsOrder();
        refusals();
    }

    private static void warm() {
        Check.part("13 warm");
        ParishCoat x = Check.told(FIVE);
        Check.due("none", x.warm(0), 0);
        Check.due("all", x.warm(31), 28);
        Check.due("one by one", x.warm(1) + 100 * x.warm(2) + 10000 * x.warm(16), 10202);
        Check.due("none beside another", x.warm(21), 7);
        Check.due("two and one", x.warm(19), 10);
        Check.due("the last two", x.warm(24), 10);
        for (int set : new int[] {32, 33, 64, -1, Integer.MIN_VALUE, Integer.MAX_VALUE}) {
            Check.refused(x, "warm(" + set + ")", () -> x.warm(set), -2);
        }
        ParishCoat y = Check.told("bone 9 1;bone 9 1;quota 1;cold 30");
        y.day(0);
        Check.due("frozen", y.count(5), 1);
        Check.due("frozen ones, too", y.warm(3), 18);
    }

    private static void carried() {
        Check.part("14 carried");
        ParishCoat x = Check.told("bone 5 1;brass 5 1;loose 5 1;pearl 9 1;favour 1 0;favour 2 0;favour 3 1;quota 3");
        int[] byDay = {1, 1, 0, 0};
        int[] byNight = {1, 1, 0, 0};
        for (int f = 0; f < 4; f++) {
            Check.due("by day " + f, x.carried(f), byDay[f]);
        }
        x.day(-1);
        for (int f = 0; f < 4; f++) {
            Check.due("by night " + f, x.carried(f), byNight[f]);
        }
        x.favour(1, 0, 0);
        Check.due("without the brass", x.carried(0), 0);
        Check.due("a quota that no one has", Check.told("pearl 1 1;quota 3").carried(0), 0);
        Check.due("a quota that he has", Check.told("pearl 1 1;quota 2").carried(0), 1);
    }

    private static void fewest() {
        Check.part("15 fewest");
        ParishCoat x = Check.told(FIVE);
        int[] due = {3, 2, 7, 4};
        for (int what = 0; what < 4; what++) {
            Check.due("fewest(1, " + what + ")", x.fewest(1, what), due[what]);
        }
        x.day(-1);
        Check.due("by the next cold", x.fewest(1, 0), 4);
        ParishCoat alone = Check.told("bone 9 1;bone 9 1;cold 4");
        int[] dueAlone = {1, 1, 2, 0};
        for (int what = 0; what < 4; what++) {
            Check.due("alone, " + what, alone.fewest(1, what), dueAlone[what]);
        }
        ParishCoat none = Check.told("bone 9 1;bone 9 1;cold 19");
        for (int what = 0; what < 4; what++) {
            Check.due("none, " + what, none.fewest(1, what), -1);
        }
        ParishCoat several = Check.told("bone 9 1;bone 9 1;bone 9 1;bone 9 1;cold 18");
        int[] dueSeveral = {2, 2, 3, 5};
        for (int what = 0; what < 4; what++) {
            Check.due("several, " + what, several.fewest(1, what), dueSeveral[what]);
        }
    }

    private static void fewestFrozen() {
        Check.part("15 fewest, frozen");
        ParishCoat x = Check.told("bone 9 1;bone 9 1;bone 9 1;bone 9 1;quota 1;cold 30;cold 18");
        Check.due("day(2)", x.day(2), 4);
        int[] due = {2, 1, 3, 1};
        for (int what = 0; what < 4; what++) {
            Check.due("fewest(1, " + what + ")", x.fewest(1, what), due[what]);
        }
        Check.due("3 has nobody", x.fewest(3, 0), 3);
    }

    private static void swings() {
        Check.part("16 swings");
        ParishCoat x = Check.told(FIVE);
        int[] byDay = {4, 4, 10, 4, 4};
        int[] byNight = {4, 8, 8, 0, 4};
        for (int f = 0; f < 5; f++) {
            Check.due("by day " + f, x.swings(f), byDay[f]);
        }
        x.day(-1);
        for (int f = 0; f < 5; f++) {
            Check.due("by night " + f, x.swings(f), byNight[f]);
        }
        ParishCoat y = Check.told("pearl 1 1;bone 1 1;bone 1 1;quota 1;cold 30");
        Check.due("one is enough", y.swings(0), 1);
        y.day(1);
        Check.due("without the frozen", y.swings(2), 1);
        Check.due("all alike", Check.told("bone 1 1;bone 1 1;bone 1 1;quota 2").swings(1), 2);
    }

    private static void lot() {
        Check.part("17 lot");
        ParishCoat x = Check.told(FIVE);
        int[][] due = {{3, 20}, {3, 20}, {2, 5}, {3, 20}, {3, 20}};
        for (int f = 0; f < 5; f++) {
            Check.due("above of " + f, x.lot(f, 0), due[f][0]);
            Check.due("below of " + f, x.lot(f, 1), due[f][1]);
        }
        ParishCoat never = Check.told("bone 1 1;bone 1 1;quota 3");
        Check.due("never, above", never.lot(0, 0), 0);
        Check.due("never, below", never.lot(0, 1), 1);
        ParishCoat always = Check.told("pearl 1 1;quota 2");
        Check.due("always, above", always.lot(0, 0), 1);
        Check.due("always, below", always.lot(0, 1), 1);
        ParishCoat y = Check.told("pearl 1 1;bone 1 1;bone 1 1;quota 2;cold 30");
        Check.due("of three, above", y.lot(1, 0), 1);
        Check.due("of three, below", y.lot(1, 1), 6);
        y.day(0);
        Check.due("of two, above", y.lot(1, 0), 1);
        Check.due("of two, below", y.lot(1, 1), 2);
    }

    private static void win() {
        Check.part("18 win");
        ParishCoat x = Check.told("bone 9 30;bone 9 10;bone 9 5;pearl 9 50;favour 0 1;quota 3;cold 20");
        Check.due("how much", x.win(1, 0), 5);
        Check.due("which", x.win(1, 1), 4);
        Check.due("for 0, how much", x.win(0, 0), 15);
        Check.due("for 0, which", x.win(0, 1), 6);
        x.favour(2, 1, 1);
        Check.due("none to be won, how much", x.win(1, 0), 0);
        Check.due("none to be won, which", x.win(1, 1), 0);
        ParishCoat cold = Check.told("bone 9 30;bone 9 10;quota 2;cold 19");
        Check.due("too cold, how much", cold.win(0, 0), -1);
        Check.due("too cold, which", cold.win(0, 1), -1);
        Check.due("too few", Check.told("bone 9 30;bone 9 10;quota 3;cold 1").win(0, 0), -1);
        ParishCoat y = Check.told("bone 9 30;bone 9 1;bone 9 10;quota 1;cold 30;cold 4;cold 13");
        y.day(1);
        Check.due("he has all already", y.win(0, 0), 0);
        y.day(-1);
        Check.due("a frozen one can not be won", y.win(0, 1), -1);
    }

    private static void winPricesAlike() {
        Check.part("18 win, alike");
        ParishCoat x = Check.told("bone 9 5;bone 9 10;bone 9 5;bone 9 0;quota 2;cold 4");
        Check.due("one for nothing", x.win(1, 0), 0);
        Check.due("who", x.win(1, 1), 8);
        Check.tell(x, "quota 3");
        Check.due("how much", x.win(1, 0), 5);
        Check.due("the least", x.win(1, 1), 9);
        Check.tell(x, "quota 1");
        Check.due("nobody, though one is for nothing", x.win(1, 1), 0);
    }

    private static void block() {
        Check.part("19 block");
        ParishCoat x = Check.told("bone 9 1;bone 9 1;bone 9 1;bone 9 1;bone 9 1;cold 20");
        Check.due("every second one", x.block(0), 10);
        Check.due("for the middle one", x.block(2), 10);
        Check.due("already cold", Check.told("bone 9 1;bone 9 1;cold 19").block(0), 0);
        Check.due("never cold", Check.told("bone 9 1;bone 9 1;cold 4").block(0), -1);
        ParishCoat y = Check.told("bone 9 1;bone 9 1;bone 9 1;quota 1;cold 30;cold 12");
        y.day(1);
        Check.due("cold without the frozen", y.block(0), 0);
        y.undo();
        y.day(-1);
        Check.due("one or the other", y.block(0), 2);
        Check.due("for the middle one both are wanted", y.block(1), 5);
    }

    private static void wrong() {
        Check.part("20 wrong");
        ParishCoat x = Check.told("bone 9 1;bone 8 1;bone 7 1;bone 6 1;favour 0 1;favour 3 1;quota 1;cold 30;cold 0");
        Check.due("1 and 2, none behind the last", x.wrong(1), 15);
        Check.due("alone", x.wrong(0), 4);
        Check.due("the last", x.wrong(3), 0);
        x.day(2);
        Check.due("frozen", x.count(5), 4);
        Check.due("a frozen one behind", x.wrong(1), 15);
        x.day(-1);
        x.day(0);
        Check.due("frozen", x.count(5), 5);
        Check.due("who is frozen himself has none behind", x.wrong(1), 3);
    }

    private static void turns() {
        Check.part("21 turns");
        ParishCoat x = Check.told("bone 9 1;bone 9 1;bone 9 1;favour 1 0;favour 0 1;favour 1 2;quota 2;cold 18");
        Check.due("0 days, frozen", x.turns(0, 0), 0);
        Check.due("0 days, health", x.turns(0, 1), 60);
        for (int what = 2; what < 6; what++) {
            Check.due("0 days, " + what, x.turns(0, what), -1);
        }
        Check.due("1 day, health", x.turns(1, 1), 54);
        Check.due("1 day, who", x.turns(1, 2), 0);
        Check.due("1 day, not so much", x.turns(1, 3), -1);
        // The first day gains nothing to one who has 20; on the second he who has least gains 2.
        Check.due("2 days, health", x.turns(2, 1), 50);
        Check.due("2 days, first", x.turns(2, 2), 0);
        Check.due("2 days, second", x.turns(2, 3), 1);
        Check.due("nothing changes", x.count(1) * 100 + x.count(6), 60);
        Check.due("n = 5", x.turns(5, 0), -3);
        Check.due("n = -1", x.turns(-1, 0), -3);
        Check.due("what = 6", x.turns(4, 6), -3);
        Check.due("what = -1", x.turns(4, -1), -3);
        Check.due("all wrong", x.turns(Integer.MIN_VALUE, Integer.MAX_VALUE), -3);
    }

    private static void turnsOrder() {
        Check.part("21 turns, order");
        ParishCoat mild = Check.told("bone 9 1;bone 9 1;quota 1;cold 0");
        Check.due("nobody, where none is better", mild.turns(3, 2) + mild.turns(3, 3) + mild.turns(3, 4), -3);
        // Who wears it saves himself on the last day, the others freeze.
        ParishCoat x = Check.told("bone 9 1;bone 9 1;bone 9 1;favour 0 1;favour 2 1;quota 3;cold 27");
        for (int i = 0; i < 3; i++) {
            x.day(-1);
        }
        Check.due("health", x.family(0, 3), 5);
        Check.due("frozen", x.turns(1, 0), 2);
        Check.due("health then", x.turns(1, 1), 7);
        Check.due("who", x.turns(1, 2), 1);
        Check.due("2 days", x.turns(2, 0), 2);
        Check.due("2 days, who", x.turns(2, 2), 1);
        Check.due("3 days", x.turns(3, 0), 3);
        Check.due("3 days, nobody", x.turns(3, 2), -1);
        x.day(1);
        Check.due("frozen", x.count(5), 5);
        Check.due("one has no quota", x.turns(1, 0), 2);
        Check.due("two days", x.turns(2, 0), 3);
        // Fewer frozen ones count ahead of more health.
        ParishCoat y = Check.told("bone 9 1;bone 2 1;favour 0 1;quota 1;cold 11");
        y.day(0);
        Check.due("7 are wanting", y.family(0, 3), 13);
        Check.due("frozen", y.turns(4, 0), 0);
    }

    private static void refusals() {
        Check.part("14 to 20 refusals");
        ParishCoat x = Check.told("bone 9 1;bone 9 1;bone 9 1;quota 1;cold 30");
        x.day(1);
        Check.due("frozen", x.count(5), 2);
        for (int number : new int[] {-1, -2, 3, 7, 32, 33, Integer.MAX_VALUE, Integer.MIN_VALUE}) {
            refusedAll(x, number, 0, -2, -2);
            refusedAll(x, number, 9, -2, -2);
        }
        refusedAll(x, 1, 0, -4, -4);
        refusedAll(x, 1, 4, -3, -4);
        refusedAll(x, 1, -1, -3, -4);
        Check.refused(x, "fewest(0, 4)", () -> x.fewest(0, 4), -3);
        Check.refused(x, "lot(0, 2)", () -> x.lot(0, 2), -3);
        Check.refused(x, "win(0, 2)", () -> x.win(0, 2), -3);
        Check.refused(x, "fewest(0, 3)", () -> x.fewest(0, 3), -1);
        Check.refused(x, "swings(0)", () -> x.swings(0), 1);
        Check.refused(x, "lot(0, 1)", () -> x.lot(0, 1), 2);
        Check.refused(x, "win(0, 1)", () -> x.win(0, 1), -1);
        Check.refused(x, "block(0)", () -> x.block(0), 0);
        Check.refused(x, "wrong(0)", () -> x.wrong(0), 4);
        Check.refused(x, "carried(0)", () -> x.carried(0), 1);
        Check.refused(x, "turns(4, 1)", () -> x.turns(4, 1), 0);
    }

    /** The calls with a second number, and those without. */
    private static void refusedAll(ParishCoat x, int family, int what, int two, int one) {
        Check.refused(x, "fewest(" + family + ", " + what + ")", () -> x.fewest(family, what), two);
        Check.refused(x, "lot(" + family + ", " + what + ")", () -> x.lot(family, what), two);
        Check.refused(x, "win(" + family + ", " + what + ")", () -> x.win(family, what), two);
        Check.refused(x, "carried(" + family + ")", () -> x.carried(family), one);
        Check.refused(x, "swings(" + family + ")", () -> x.swings(family), one);
        Check.refused(x, "block(" + family + ")", () -> x.block(family), one);
        Check.refused(x, "wrong(" + family + ")", () -> x.wrong(family), one);
    }
}
