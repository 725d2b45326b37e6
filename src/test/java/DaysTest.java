/** Promises 8 to 12: favour, day, undo, keep, back. */
final class DaysTest {
    private DaysTest() {
    }

    static void run() {
        favour();
        favourRefused();
        dayOfNobody();
        dayOfOne();
        dayByWeights();
        dayRefused();
        dayFull();
        undo();
        undoFavour();
        keepAndBack();
        keepLeavesOut();
    }

    private static void favour() {
        Check.part("8 favour");
        ParishCoat x = Check.told("bone 5 10;bone 4 20;bone 9 9");
        Check.due("favour(0, 1, 1)", x.favour(0, 1, 1), 0);
        Check.due("favour(0, 1, 1)", x.favour(0, 1, 1), 1);
        Check.due("family(0, 4)", x.family(0, 4), 2);
        Check.due("family(1, 5)", x.family(1, 5), 3);
        Check.due("favour(2, 1, 0)", x.favour(2, 1, 0), 0);
        Check.due("favour(2, 1, 1)", x.favour(2, 1, 1), 0);
        Check.due("family(1, 5)", x.family(1, 5), 7);
        Check.due("favour(0, 1, 0)", x.favour(0, 1, 0), 1);
        Check.due("family(1, 5)", x.family(1, 5), 6);
        Check.due("each can be undone", x.count(8), 5);
    }

    private static void favourRefused() {
        Check.part("8 refusals");
        ParishCoat x = Check.told("bone 5 10;bone 4 20;bone 9 9;quota 1;cold 40");
        Check.refused(x, "favour(3, 0, 1)", () -> x.favour(3, 0, 1), -2);
        Check.refused(x, "favour(0, 3, 1)", () -> x.favour(0, 3, 1), -2);
        Check.refused(x, "favour(-1, 0, 1)", () -> x.favour(-1, 0, 1), -2);
        Check.refused(x, "favour(0, -1, 1)", () -> x.favour(0, -1, 1), -2);
        Check.refused(x, "favour(1, 1, 1)", () -> x.favour(1, 1, 1), -2);
        Check.refused(x, "favour(1, 1, 2)", () -> x.favour(1, 1, 2), -2);
        Check.refused(x, "favour(0, 1, 2)", () -> x.favour(0, 1, 2), -3);
        Check.refused(x, "favour(0, 1, -1)", () -> x.favour(0, 1, -1), -3);
        Check.due("day(0)", x.day(0), 1);
        Check.refused(x, "favour(0, 1, 1)", () -> x.favour(0, 1, 1), -4);
        Check.refused(x, "favour(1, 0, 1)", () -> x.favour(1, 0, 1), -4);
        Check.refused(x, "favour(0, 1, 2)", () -> x.favour(0, 1, 2), -3);
        Check.refused(x, "favour(0, 0, 1)", () -> x.favour(0, 0, 1), -2);
        Check.due("favour(1, 2, 1)", x.favour(1, 2, 1), 0);
    }

    private static void dayOfNobody() {
        Check.part("9 nobody");
        ParishCoat x = Check.told("bone 5 10;bone 4 20;cold 4;cold 5;cold 39;cold 40");
        int[] healths = {20, 19, 12, 4, 4, 3, 0};
        for (int i = 0; i < healths.length; i++) {
            Check.due("cold on day " + i, x.count(3), new int[] {4, 5, 39, 40}[i % 4]);
            Check.due("day " + i, x.day(-1), i == 6 ? 3 : 0);
            Check.due("health", x.family(1, 3), healths[i]);
            Check.due("of all", x.count(6), 2 * healths[i]);
            Check.due("the day", x.count(1), i + 1);
        }
        Check.due("frozen", x.count(5), 3);
        Check.due("a day of the frozen", x.day(-1), 0);
        Check.due("no health", x.count(6), 0);
    }

    private static void dayOfOne() {
        Check.part("9 one");
        // Alone he has 4 of 9: below the cold by 6 on the first day, as warm as the cold on the second.
        ParishCoat x = Check.told("bone 9 1;bone 8 1;bone 7 1;quota 1;cold 10;cold 4;cold 17;cold 18");
        Check.due("day(0)", x.day(0), 0);
        Check.due("health of 0", x.family(0, 3), 14);
        Check.due("health of 1", x.family(1, 3), 18);
        Check.due("day(0)", x.day(0), 0);
        Check.due("2 more", x.family(0, 3), 16);
        Check.due("none less", x.family(1, 3), 18);
        x.favour(1, 0, 1);
        Check.due("day(0)", x.day(0), 0);
        Check.due("2 more by two", x.family(0, 3), 18);
        Check.due("3 less", x.family(2, 3), 15);
        Check.due("day(0)", x.day(0), 0);
        Check.due("1 is wanting", x.family(0, 3), 17);
        Check.tell(x, "mild;cold 0");
        Check.due("day(1)", x.day(1), 0);
        Check.due("20 at most", x.family(1, 3), 20);
        Check.due("nothing less by none", x.family(0, 3), 20);
    }

    private static void dayByWeights() {
        Check.part("9 weights");
        // By day 1 + 1 + 1, by night 1 + 2 + 0.
        ParishCoat x = Check.told("bone 9 1;brass 9 1;loose 9 1;favour 1 0;favour 2 0;favour 0 2;quota 3;cold 20");
        Check.due("day", x.day(0), 0);
        Check.due("he wears it", x.family(0, 3), 20);
        Check.due("night", x.day(0), 0);
        Check.due("he wears it", x.family(0, 3), 20);
        Check.due("others", x.family(1, 3), 12);
        Check.due("not carried", x.day(2), 0);
        Check.due("he too has less", x.family(2, 3), 8);
        Check.due("others", x.family(0, 3), 16);
        ParishCoat y = Check.told("bone 9 1;brass 9 1;favour 1 0;quota 3;cold 30;cold 14");
        Check.due("not carried by day", y.day(0), 0);
        Check.due("6 less", y.family(0, 3), 14);
        Check.due("carried by night", y.day(0), 0);
        Check.due("2 more", y.family(0, 3), 16);
    }

    private static void dayRefused() {
        Check.part("9 refusals");
        ParishCoat x = Check.told("bone 5 10;bone 4 20;quota 1;cold 22");
        Check.refused(x, "day(-2)", () -> x.day(-2), -2);
        Check.refused(x, "day(2)", () -> x.day(2), -2);
        for (int number : Check.WRONG_NUMBERS) {
            if (number != -1) {
                Check.refused(x, "day(" + number + ")", () -> x.day(number), -2);
            }
        }
        Check.due("exactly none left", x.day(0), 1);
        Check.refused(x, "day(0)", () -> x.day(0), -4);
        Check.due("he is 0", x.family(0, 3), 0);
        Check.due("day(1)", x.day(1), 2);
    }

    /** No 512 calls reach it, but the promise names it. */
    private static void dayFull() {
        Check.part("9 full");
        ParishCoat x = Check.told("bone 5 10;bone 4 20;cold 0;quota 1");
        for (int i = 0; i < 999; i++) {
            Check.due("day " + i, x.day(i % 3 - 1), 0);
        }
        Check.due("the day", x.count(1), 999);
        Check.refused(x, "day(-1)", () -> x.day(-1), -5);
        Check.refused(x, "day(0)", () -> x.day(0), -5);
        Check.refused(x, "day(2)", () -> x.day(2), -2);
        Check.due("turns go on", x.turns(2, 1), 40);
        Check.due("undo()", x.undo(), 7);
        Check.due("day(0)", x.day(0), 0);
        Check.refused(x, "day(0)", () -> x.day(0), -5);
    }

    private static void undo() {
        Check.part("10 undo");
        ParishCoat x = Check.told("bone 5 10;bone 4 20;quota 1;cold 10");
        Check.refused(x, "undo()", x::undo, -4);
        for (int i = 0; i < 10; i++) {
            x.day(-1);
            Check.due("can be undone", x.count(8), Math.min(i + 1, 8));
        }
        Check.due("frozen", x.count(5), 3);
        for (int i = 0; i < 8; i++) {
            Check.due("undo()", x.undo(), 7 - i);
            Check.due("the day", x.count(1), 9 - i);
            Check.due("health", x.family(1, 3), 2 * (i + 1));
            Check.due("frozen", x.count(5), 0);
        }
        Check.refused(x, "undo()", x::undo, -4);
        x.day(0);
        x.day(9);
        x.favour(0, 0, 1);
        Check.due("refused ones can not be undone", x.count(8), 1);
        Check.due("undo()", x.undo(), 0);
        Check.due("health", x.family(0, 3), 16);
    }

    private static void undoFavour() {
        Check.part("10 undo favour");
        ParishCoat x = Check.told("bone 5 10;bone 4 20;favour 0 1");
        x.favour(0, 1, 0);
        x.favour(1, 0, 1);
        x.day(-1);
        x.favour(1, 0, 1);
        x.seen(1, 0, 1);
        Check.due("undo()", x.undo(), 3);
        Check.due("it did before, too", x.family(1, 4), 1);
        Check.due("undo()", x.undo(), 2);
        Check.due("the day", x.count(1), 0);
        Check.due("undo()", x.undo(), 1);
        Check.due("not any more", x.family(1, 4), 0);
        Check.due("undo()", x.undo(), 0);
        Check.due("as told", x.family(0, 4), 2);
        Check.due("what is seen stays", x.count(7), 1);
    }

    private static void keepAndBack() {
        Check.part("11, 12 keep, back");
        ParishCoat x = Check.told("bone 5 10;bone 4 20;quota 1;cold 30");
        for (int k : new int[] {-1, 2, 3, Integer.MAX_VALUE, Integer.MIN_VALUE}) {
            Check.refused(x, "keep(" + k + ")", () -> x.keep(k), -2);
            Check.refused(x, "back(" + k + ")", () -> x.back(k), -2);
        }
        Check.refused(x, "back(0)", () -> x.back(0), -4);
        x.day(-1);
        x.favour(0, 1, 1);
        Check.due("keep(1)", x.keep(1), 1);
        Check.refused(x, "back(0)", () -> x.back(0), -4);
        x.day(0);
        x.favour(0, 1, 0);
        Check.due("frozen", x.count(5), 1);
        Check.due("keep(0)", x.keep(0), 2);
        Check.due("what can be undone stays by keep", x.count(8), 3);
        Check.due("back(1)", x.back(1), 1);
        Check.due("the day", x.count(1), 1);
        Check.due("nobody is frozen", x.count(5), 0);
        Check.due("healths", x.count(6), 28);
        Check.due("favours", x.family(0, 4), 2);
        Check.refused(x, "undo()", x::undo, -4);
        x.day(-1);
        Check.due("back(1) again", x.back(1), 1);
        Check.due("back(0)", x.back(0), 2);
        Check.due("frozen", x.count(5), 1);
        x.day(-1);
        Check.due("keep(0) over what was kept", x.keep(0), 3);
        x.day(-1);
        Check.due("back(0)", x.back(0), 3);
    }

    private static void keepLeavesOut() {
        Check.part("11 what is not kept");
        ParishCoat x = Check.told("bone 5 10;bone 4 20");
        x.seen(1, 0, 1);
        x.keep(0);
        x.seen(2, 0, 1);
        x.seen(3, 0, 1);
        x.day(-1);
        Check.due("back(0)", x.back(0), 0);
        Check.due("what is seen is as it is", x.count(7), 3);
        x.write('q');
        x.keep(0);
        x.erase();
        x.back(0);
        Check.due("THE TEXT is not of the winter", x.count(9), 0);
    }
}
