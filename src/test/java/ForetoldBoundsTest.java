/** The bounds of what is foretold (promises 14 to 21), a test a sentence. */
final class ForetoldBoundsTest {
    private static final int[] NO_FAMILY_OF_THREE =
        {-1, 3, -2, 4, 7, 31, 32, 33, Integer.MIN_VALUE, Integer.MAX_VALUE};

    private ForetoldBoundsTest() {
    }

    static void run() {
        unknownAndNot();
        refusedByNumbers();
        refusalsInOrder();
        refusedOfNoFamilies();
        carriedAtQuota();
        carriedByNight();
        keepsWarmAsTheCold();
        fewestHimAlone();
        fewestNone();
        fewestLeastOfSeveral();
        fewestAll();
        fewestInMost();
        fewestWithoutFrozen();
        fewestOfThisDay();
        swingsBounds();
        swingsOfWeightNone();
        swingsWithoutFrozen();
        lotNeverAndAlways();
        lotOfSeven();
        lotInLowestTerms();
        lotWithoutFrozen();
        winNobody();
        winEverybody();
        winNone();
        winAtTheBounds();
        winByTheWeightsOfTheDay();
        winLeastOfSeveral();
        winFrozenFavourer();
        winFrozenCannotBeWon();
        blockNobodyNeeded();
        blockNone();
        blockAllOthers();
        blockAtTheCold();
        blockLeastOfSeveral();
        blockWithoutFrozen();
        wrongBehindTheLast();
        wrongAtTheRowsEnds();
        wrongFrozen();
        turnsOfNoDays();
        turnsBounds();
        turnsNotSoMuch();
        turnsOutsideAheadOfNone();
        turnsFirstOfSeveral();
        turnsFewestAheadOfHealth();
        turnsOfFrozen();
        turnsOfNoFamilies();
        turnsOfColdsAgain();
        turnsAcrossNights();
        turnsOfEachOnEachDay();
        turnsChangeNothing();
    }

    /** Family 1 is FROZEN; DAY 1, a night; something is SEEN, kept, written, and can be undone. */
    private static ParishCoat oneFrozen() {
        ParishCoat x = Check.told("bone 9 1;brass 9 2;pearl 9 3;favour 0 2;favour 1 2;quota 1;cold 24;cold 8");
        Check.due("day(1)", x.day(1), 2);
        x.seen(3, 0, 1);
        x.keep(0);
        x.favour(2, 0, 1);
        Check.write(x, "quota 9");
        return x;
    }

    private static void unknownAndNot() {
        Check.part("Promises 14 to 20: 'UNKNOWN', 'NOT: he is FROZEN'");
        Still still = new Still(ForetoldBoundsTest::oneFrozen);
        for (int f : NO_FAMILY_OF_THREE) {
            refusedEach(still, f, -2);
        }
        refusedEach(still, 1, -4);
    }

    private static void refusedEach(Still still, int f, int want) {
        still.due("carried(" + f + ")", x -> x.carried(f), want);
        still.due("swings(" + f + ")", x -> x.swings(f), want);
        still.due("block(" + f + ")", x -> x.block(f), want);
        still.due("wrong(" + f + ")", x -> x.wrong(f), want);
        for (int what = 0; what < 4; what++) {
            int w = what;
            still.due("fewest(" + f + ", " + what + ")", x -> x.fewest(f, w), want);
        }
        for (int what = 0; what < 2; what++) {
            int w = what;
            still.due("lot(" + f + ", " + what + ")", x -> x.lot(f, w), want);
            still.due("win(" + f + ", " + what + ")", x -> x.win(f, w), want);
        }
    }

    private static void refusedByNumbers() {
        Check.part("Promises 15, 17, 18: 'OUTSIDE', fewest what 0 .. 3, lot part 0, 1, win what 0, 1");
        Still still = new Still(ForetoldBoundsTest::oneFrozen);
        for (int f : new int[] {0, 2}) {
            for (int what : new int[] {-1, 4, -2, 5, Integer.MIN_VALUE, Integer.MAX_VALUE}) {
                still.due("fewest(" + f + ", " + what + ")", x -> x.fewest(f, what), -3);
            }
            for (int what : new int[] {-1, 2, -2, 3, Integer.MIN_VALUE, Integer.MAX_VALUE}) {
                still.due("lot(" + f + ", " + what + ")", x -> x.lot(f, what), -3);
                still.due("win(" + f + ", " + what + ")", x -> x.win(f, what), -3);
            }
        }
        // By night bone 1, pearl 2, quota 1; COLD 8, 0 and 2 have 4 each.
        int[][] due = {{2, 1, 5, 4}, {1, 2}, {0, 0}};
        for (int what = 0; what < 4; what++) {
            int w = what;
            still.due("fewest(0, " + what + ")", x -> x.fewest(0, w), due[0][what]);
        }
        for (int what = 0; what < 2; what++) {
            int w = what;
            still.due("lot(0, " + what + ")", x -> x.lot(0, w), due[1][what]);
            still.due("win(0, " + what + ")", x -> x.win(0, w), due[2][what]);
        }
    }

    private static void refusalsInOrder() {
        Check.part("Promises 15, 17, 18: UNKNOWN ahead of OUTSIDE ahead of NOT");
        Still still = new Still(ForetoldBoundsTest::oneFrozen);
        for (int what : new int[] {-1, 4, Integer.MIN_VALUE, Integer.MAX_VALUE}) {
            for (int f : new int[] {-1, 3, Integer.MIN_VALUE, Integer.MAX_VALUE}) {
                refusedTwo(still, f, what, -2);
            }
            refusedTwo(still, 1, what, -3);
        }
        // OUTSIDE, where the answer would be NONE.
        ParishCoat none = Check.told("bone 9 1;bone 9 1;cold 40");
        Check.due("fewest(0, 4)", none.fewest(0, 4), -3);
        Check.due("win(0, 2)", none.win(0, 2), -3);
    }

    private static void refusedTwo(Still still, int f, int what, int want) {
        still.due("fewest(" + f + ", " + what + ")", x -> x.fewest(f, what), want);
        still.due("lot(" + f + ", " + what + ")", x -> x.lot(f, what), want);
        still.due("win(" + f + ", " + what + ")", x -> x.win(f, what), want);
    }

    private static void refusedOfNoFamilies() {
        Check.part("Promises 14 to 20: 'UNKNOWN', where there are no families");
        Still still = new Still(ParishCoat::new);
        for (int f : new int[] {0, -1, 1, Integer.MIN_VALUE, Integer.MAX_VALUE}) {
            refusedEach(still, f, -2);
        }
    }

    private static void carriedAtQuota() {
        Check.part("Promise 14: '1 it would be CARRIED for one, 0 not'");
        String[] kinds = {"bone", "brass", "pearl", "loose"};
        int[] byDay = {1, 1, 2, 1};
        for (int kind = 0; kind < 4; kind++) {
            for (int quota = 1; quota <= 20; quota++) {
                ParishCoat x = Check.told(kinds[kind] + " 9 1;quota " + quota);
                Check.due(kinds[kind] + " by quota " + quota, x.carried(0), byDay[kind] >= quota ? 1 : 0);
            }
        }
        ParishCoat all = Check.told("pearl 1 1;pearl 1 1;pearl 1 1;pearl 1 1;pearl 1 1;pearl 1 1;pearl 1 1;quota 14");
        for (int f = 1; f < 7; f++) {
            Check.due("by " + 2 * f, all.carried(0), 0);
            all.favour(f, 0, 1);
        }
        Check.due("by 14", all.carried(0), 1);
        Check.due("whom he favours does not count", all.carried(1), 0);
    }

    private static void carriedByNight() {
        Check.part("Promise 14: by the WEIGHTS of this DAY");
        ParishCoat x = Check.told("brass 9 1;loose 9 1;bone 9 1;pearl 9 1;quota 2;cold 0");
        int[][] due = {{0, 0, 0, 1}, {1, 0, 0, 1}};
        for (int day = 0; day < 4; day++) {
            for (int f = 0; f < 4; f++) {
                Check.due("carried(" + f + ") on " + day, x.carried(f), due[day % 2][f]);
            }
            x.day(-1);
        }
    }

    private static void keepsWarmAsTheCold() {
        Check.part("Terms: 'a SET with him by which WARM is no less than COLD'");
        for (int cold = 0; cold <= 40; cold++) {
            ParishCoat x = Check.told("bone 9 1;bone 9 1;bone 9 1;cold " + cold);
            int want = cold <= 4 ? 1 : cold <= 18 ? 2 : cold <= 27 ? 3 : -1;
            Check.due("fewest(1, 0) by " + cold, x.fewest(1, 0), want);
        }
        // At the row's end the next but one gives 4 and 4: no more than one alone twice.
        ParishCoat y = Check.told("bone 9 1;bone 1 1;bone 9 1;cold 8");
        Check.due("0 and 1, 0 and 2", y.fewest(0, 1), 2);
        Check.due("the least", y.fewest(0, 2), 3);
    }

    private static void fewestHimAlone() {
        Check.part("Promise 15: '0, if they are all of him alone'");
        for (int f = 0; f < 7; f++) {
            ParishCoat x = Check.told("bone 8 1;bone 8 1;bone 8 1;bone 8 1;bone 8 1;bone 8 1;bone 8 1;cold 4");
            Check.due("how many FAMILIES", x.fewest(f, 0), 1);
            Check.due("how many SETS", x.fewest(f, 1), 1);
            Check.due("the least", x.fewest(f, 2), 1 << f);
            Check.due("in most", x.fewest(f, 3), 0);
        }
        ParishCoat one = Check.told("bone 1 1;cold 0");
        Check.due("of COLD 0 by a half of 1", one.fewest(0, 0), 1);
        Check.due("in most", one.fewest(0, 3), 0);
    }

    private static void fewestNone() {
        Check.part("Promise 15: 'NONE'");
        ParishCoat x = Check.told("bone 9 1;bone 9 1;bone 9 1;cold 28;cold 27");
        for (int f = 0; f < 3; f++) {
            for (int what = 0; what < 4; what++) {
                Check.due("fewest(" + f + ", " + what + ")", x.fewest(f, what), -1);
            }
        }
        x.day(-1);
        Check.due("one less", x.fewest(0, 0), 3);
        Check.due("alone in the row", Check.told("bone 9 1;cold 5").fewest(0, 0), -1);
    }

    private static void fewestLeastOfSeveral() {
        Check.part("Terms: FEWEST 'the least (by bits)'");
        ParishCoat x = Check.told("bone 9 1;bone 9 1;bone 9 1;bone 9 1;bone 9 1;bone 9 1;bone 9 1;cold 18");
        int[] least = {3, 3, 6, 12, 24, 48, 96};
        int[] many = {1, 2, 2, 2, 2, 2, 1};
        for (int f = 0; f < 7; f++) {
            Check.due("fewest(" + f + ", 0)", x.fewest(f, 0), 2);
            Check.due("fewest(" + f + ", 1)", x.fewest(f, 1), many[f]);
            Check.due("fewest(" + f + ", 2)", x.fewest(f, 2), least[f]);
        }
    }

    private static void fewestAll() {
        Check.part("Promise 15: the SET of all");
        ParishCoat x = Check.told("bone 5 1;bone 5 1;bone 5 1;bone 5 1;bone 5 1;bone 5 1;bone 5 1;cold 35");
        for (int f = 0; f < 7; f++) {
            Check.due("how many FAMILIES", x.fewest(f, 0), 7);
            Check.due("how many SETS", x.fewest(f, 1), 1);
            Check.due("the least", x.fewest(f, 2), 127);
            Check.due("in most, but himself", x.fewest(f, 3), 127 & ~(1 << f));
        }
    }

    private static void fewestInMost() {
        Check.part("Terms: 'those who are in most of these (but himself ..), by bits'");
        // For 0: with 1 (18), and with any other, each alone: 4 and 4.
        ParishCoat x = Check.told("bone 9 1;bone 9 1;bone 9 1;bone 9 1;cold 8");
        Check.due("three SETS", x.fewest(0, 1), 3);
        Check.due("each is in one", x.fewest(0, 3), 14);
        ParishCoat y = Check.told("bone 9 1;bone 1 1;bone 1 1;bone 9 1;bone 1 1;cold 12");
        // For 0: 0, 3 and any third: 1 (9 + 1 + 4), 2 (4 + 1 + 9), 4 (4 + 9 + 1).
        Check.due("SETS", y.fewest(0, 1), 3);
        Check.due("3 is in all", y.fewest(0, 3), 8);
        Check.due("the least", y.fewest(0, 2), 11);
    }

    private static void fewestWithoutFrozen() {
        Check.part("Terms: FORETOLD 'of those not FROZEN', FEWEST");
        ParishCoat x = Check.told("bone 9 1;bone 9 1;bone 9 1;quota 1;cold 30;cold 18");
        x.day(1);
        Check.due("0 has nobody beside him", x.fewest(0, 0), -1);
        x.undo();
        x.day(0);
        Check.due("1 has 2 alone", x.fewest(1, 2), 6);
        Check.due("one SET", x.fewest(1, 1), 1);
    }

    private static void fewestOfThisDay() {
        Check.part("Terms: FORETOLD 'on this DAY, whoever FAVOURS whom'");
        ParishCoat x = Check.told("bone 9 1;bone 9 1;quota 20;cold 0;cold 5;cold 19");
        int[] due = {1, 2, -1, 1};
        for (int day = 0; day < 4; day++) {
            Check.due("on day " + day, x.fewest(0, 0), due[day]);
            x.day(-1);
        }
    }

    private static void swingsBounds() {
        Check.part("Terms: SWINGS 'below QUOTA, and with his are not'");
        // Seven of weight 1: with quota q there are C(6, q - 1) sets of q - 1 others.
        int[] ways = {1, 6, 15, 20, 15, 6, 1};
        for (int quota = 1; quota <= 20; quota++) {
            ParishCoat x = Check.told("bone 1 1;bone 1 1;bone 1 1;bone 1 1;bone 1 1;bone 1 1;bone 1 1;quota " + quota);
            for (int f = 0; f < 7; f++) {
                Check.due("swings(" + f + ") of " + quota, x.swings(f), quota <= 7 ? ways[quota - 1] : 0);
            }
        }
        Check.due("one alone at QUOTA", Check.told("pearl 1 1;quota 2").swings(0), 1);
        Check.due("one alone below QUOTA", Check.told("pearl 1 1;quota 3").swings(0), 0);
        Check.due("one alone above QUOTA", Check.told("pearl 1 1;quota 1").swings(0), 1);
    }

    private static void swingsOfWeightNone() {
        Check.part("Terms: SWINGS of a LOOSE one by night, of WEIGHT 0");
        ParishCoat x = Check.told("loose 1 1;bone 1 1;quota 1;cold 0");
        Check.due("by day", x.swings(0), 1);
        Check.due("of 1 by day", x.swings(1), 1);
        x.day(-1);
        Check.due("by night", x.swings(0), 0);
        Check.due("of 1 by night, with 0 or without", x.swings(1), 2);
    }

    private static void swingsWithoutFrozen() {
        Check.part("Terms: FORETOLD 'of those not FROZEN', SWINGS");
        ParishCoat x = Check.told("bone 9 1;bone 9 1;pearl 9 1;favour 0 2;quota 3;cold 39");
        Check.due("with the pearl", x.swings(0), 1);
        Check.due("the pearl is FROZEN", x.day(2), 4);
        Check.due("1 and 1 are no 3", x.swings(0), 0);
        // Each SET of others would be there twice with a FROZEN one in it.
        ParishCoat y = Check.told("bone 9 1;bone 9 1;loose 9 1;quota 1;cold 39");
        Check.due("loose is FROZEN", y.day(2), 4);
        Check.due("0 by the empty SET alone", y.swings(0), 1);
    }

    private static void lotNeverAndAlways() {
        Check.part("Promise 17: LOT of none and of all, 'in lowest terms'");
        ParishCoat x = Check.told("bone 1 1;bone 1 1;bone 1 1;bone 1 1;bone 1 1;bone 1 1;bone 1 1;quota 8");
        for (int f = 0; f < 7; f++) {
            Check.due("never, above", x.lot(f, 0), 0);
            Check.due("never, below", x.lot(f, 1), 1);
        }
        ParishCoat one = Check.told("bone 1 1;quota 1");
        Check.due("always, above", one.lot(0, 0), 1);
        Check.due("always, below", one.lot(0, 1), 1);
        ParishCoat two = Check.told("loose 1 1;bone 1 1;quota 1;cold 0");
        two.day(-1);
        Check.due("always beside one of WEIGHT 0", two.lot(1, 0) * 10 + two.lot(1, 1), 11);
        Check.due("never of WEIGHT 0", two.lot(0, 0) * 10 + two.lot(0, 1), 1);
    }

    private static void lotOfSeven() {
        Check.part("Promise 17: LOT of seven");
        for (int quota = 1; quota <= 7; quota++) {
            ParishCoat x = Check.told("bone 1 1;bone 1 1;bone 1 1;bone 1 1;bone 1 1;bone 1 1;bone 1 1;quota " + quota);
            for (int f = 0; f < 7; f++) {
                Check.due("above", x.lot(f, 0), 1);
                Check.due("below", x.lot(f, 1), 7);
            }
        }
        // A pearl among six bones, quota 2: he is it if nobody or one is ahead of him.
        ParishCoat y = Check.told("pearl 1 1;bone 1 1;bone 1 1;bone 1 1;bone 1 1;bone 1 1;bone 1 1;quota 2");
        Check.due("the pearl's above", y.lot(0, 0), 2);
        Check.due("the pearl's below", y.lot(0, 1), 7);
        Check.due("a bone's above", y.lot(6, 0), 5);
        Check.due("a bone's below", y.lot(6, 1), 42);
    }

    private static void lotInLowestTerms() {
        Check.part("Terms: 'Parts are told in lowest terms: above (part 0), below (1)'");
        for (int quota = 1; quota <= 9; quota++) {
            ParishCoat x = Check.told("pearl 1 1;bone 1 1;brass 1 1;loose 1 1;pearl 1 1;quota " + quota + ";cold 0");
            for (int day = 0; day < 2; day++) {
                long sum = 0;
                for (int f = 0; f < 5; f++) {
                    int above = x.lot(f, 0);
                    int below = x.lot(f, 1);
                    Check.due("no common part", gcd(above, below), 1);
                    Check.due("below is of 120", 120 % below, 0);
                    sum += (long) above * (120 / below);
                }
                Check.due("together they are all, if all are QUOTA", sum, quota <= 7 ? 120 : 0);
                x.day(-1);
            }
        }
    }

    private static int gcd(int a, int b) {
        return b == 0 ? a : gcd(b, a % b);
    }

    private static void lotWithoutFrozen() {
        Check.part("Terms: FORETOLD 'of those not FROZEN', LOT");
        ParishCoat x = Check.told("bone 9 1;bone 9 1;bone 9 1;quota 1;cold 30;cold 0");
        int[] askers = {0, -1, 1};
        int[] below = {3, 2, 2, 1};
        for (int day = 0; day < 3; day++) {
            Check.due("below", x.lot(2, 1), below[day]);
            x.day(askers[day]);
        }
        Check.due("alone", x.lot(2, 0) * 10 + x.lot(2, 1), 11);
    }

    private static void winNobody() {
        Check.part("Promise 18: nobody needs to be won: 0, the empty SET");
        ParishCoat x = Check.told("pearl 9 99;bone 9 0;quota 2;cold 4");
        Check.due("how much", x.win(0, 0), 0);
        Check.due("which", x.win(0, 1), 0);
        Check.due("one more of quota, how much", x.win(1, 0), 99);
        Check.due("which", x.win(1, 1), 1);
    }

    private static void winEverybody() {
        Check.part("Promise 18: all others are to be won");
        ParishCoat x = Check.told("bone 9 99;bone 9 99;bone 9 99;bone 9 99;bone 9 99;bone 9 99;bone 9 99;quota 7;cold 40");
        for (int f = 0; f < 7; f++) {
            Check.due("how much", x.win(f, 0), 594);
            Check.due("which", x.win(f, 1), 127 & ~(1 << f));
        }
    }

    private static void winNone() {
        Check.part("Promise 18: 'NONE'");
        ParishCoat quota = Check.told("bone 9 1;bone 9 1;quota 3;cold 0");
        ParishCoat cold = Check.told("bone 9 1;bone 9 1;quota 1;cold 19");
        ParishCoat alone = Check.told("bone 9 1;quota 2;cold 0");
        for (int what = 0; what < 2; what++) {
            Check.due("QUOTA is above all", quota.win(0, what), -1);
            Check.due("COLD is above all", cold.win(0, what), -1);
            Check.due("no others", alone.win(0, what), -1);
        }
    }

    private static void winAtTheBounds() {
        Check.part("Terms: WIN 'by which it is CARRIED and he is kept warm'");
        for (int cold = 0; cold <= 28; cold++) {
            ParishCoat x = Check.told("bone 9 5;bone 9 7;bone 9 6;quota 1;cold " + cold);
            int much = cold <= 4 ? 0 : cold <= 8 ? 6 : cold <= 18 ? 7 : cold <= 27 ? 13 : -1;
            int which = cold <= 4 ? 0 : cold <= 8 ? 4 : cold <= 18 ? 2 : cold <= 27 ? 6 : -1;
            Check.due("how much by COLD " + cold, x.win(0, 0), much);
            Check.due("which by COLD " + cold, x.win(0, 1), which);
        }
        for (int quota = 1; quota <= 5; quota++) {
            ParishCoat x = Check.told("bone 9 5;bone 9 7;bone 9 6;pearl 9 6;quota " + quota + ";cold 0");
            int[] which = {0, 4, 8, 12, 14};
            Check.due("which by QUOTA " + quota, x.win(0, 1), which[quota - 1]);
        }
    }

    private static void winByTheWeightsOfTheDay() {
        Check.part("Terms: FORETOLD 'on this DAY', WIN");
        ParishCoat x = Check.told("brass 9 4;loose 9 5;bone 9 6;quota 2;cold 0");
        int[][] much = {{5, 4, 4}, {0, 4, 4}};
        int[][] which = {{2, 1, 1}, {0, 1, 1}};
        for (int day = 0; day < 4; day++) {
            for (int f = 0; f < 3; f++) {
                Check.due("win(" + f + ", 0) on " + day, x.win(f, 0), much[day % 2][f]);
                Check.due("win(" + f + ", 1) on " + day, x.win(f, 1), which[day % 2][f]);
            }
            x.day(-1);
        }
        ParishCoat y = Check.told("loose 9 1;loose 9 2;loose 9 3;quota 1;cold 0;cold 5");
        Check.due("by day he carries it alone", y.win(0, 1), 0);
        y.day(-1);
        Check.due("by night LOOSE ones carry nothing", y.win(0, 1), -1);
    }

    private static void winLeastOfSeveral() {
        Check.part("Terms: WIN 'of several the least (bits)'");
        ParishCoat x = Check.told("bone 9 5;bone 9 5;bone 9 5;bone 9 10;quota 2;cold 0");
        Check.due("of 1 and 2", x.win(0, 1), 2);
        Check.due("of 0 and 1", x.win(2, 1), 1);
        Check.due("of three", x.win(3, 1), 1);
        ParishCoat y = Check.told("bone 9 5;bone 9 0;bone 9 5;bone 9 10;bone 9 0;quota 3;cold 0");
        Check.due("two for nothing", y.win(0, 0), 0);
        Check.due("which", y.win(0, 1), 18);
        Check.tell(y, "quota 2");
        Check.due("one for nothing is less than two", y.win(0, 1), 2);
        ParishCoat z = Check.told("bone 9 1;bone 9 6;bone 9 6;bone 9 12;quota 2;cold 22");
        // 0 and 1 have 18, and with 2 27; 0, 1 and 3 have 22.
        Check.due("cheapest of two", z.win(0, 1), 6);
        ParishCoat few = Check.told("bone 9 5;bone 9 5;pearl 9 10;bone 9 1;quota 3;cold 0");
        Check.due("two (bits 3) or one (bits 4) for the same", few.win(3, 0), 10);
        Check.due("are the two", few.win(3, 1), 3);
    }

    private static void winFrozenFavourer() {
        Check.part("Terms: WIN, who FAVOURS him and is FROZEN is not DONE UP, and is not to be won");
        ParishCoat x = Check.told("bone 9 1;bone 9 1;bone 9 1;favour 1 0;quota 1;cold 30;cold 8");
        x.day(1);
        Check.due("FROZEN", x.count(5), 2);
        Check.due("0 and 2 are each alone", x.win(0, 1), 4);
    }

    private static void winFrozenCannotBeWon() {
        Check.part("Terms: FORETOLD 'of those not FROZEN', WIN");
        ParishCoat x = Check.told("bone 9 1;bone 9 1;bone 9 50;quota 1;cold 30;cold 9");
        x.day(1);
        Check.due("how much", x.win(0, 0), -1);
        x.undo();
        x.day(2);
        Check.due("the other one", x.win(0, 1), 2);
    }

    private static void blockNobodyNeeded() {
        Check.part("Promise 19: it is too cold anyway: the empty SET");
        Check.due("28 by 27", Check.told("bone 9 1;bone 9 1;bone 9 1;cold 28").block(1), 0);
        Check.due("one alone", Check.told("bone 9 1;cold 5").block(0), 0);
    }

    private static void blockNone() {
        Check.part("Promise 19: 'NONE'");
        ParishCoat x = Check.told("bone 9 1;bone 9 1;bone 9 1;cold 4");
        for (int f = 0; f < 3; f++) {
            Check.due("he alone is warm", x.block(f), -1);
        }
        ParishCoat cold = Check.told("bone 1 1;bone 9 1;cold 0");
        Check.due("nothing is below COLD 0", cold.block(0), -1);
        Check.due("one alone, no others", Check.told("bone 9 1;cold 4").block(0), -1);
    }

    private static void blockAllOthers() {
        Check.part("Promise 19: all others are needed");
        for (int many = 2; many <= 7; many++) {
            ParishCoat x = Check.told("bone 9 1;".repeat(many) + "cold 5");
            for (int f = 0; f < many; f++) {
                Check.due("block(" + f + ") of " + many, x.block(f), (1 << many) - 1 & ~(1 << f));
            }
        }
    }

    private static void blockAtTheCold() {
        Check.part("Terms: BLOCK 'so that WARM by all others and him is below COLD'");
        for (int cold = 0; cold <= 40; cold++) {
            ParishCoat x = Check.told("bone 9 1;bone 9 1;bone 9 1;cold " + cold);
            int end = cold <= 4 ? -1 : cold <= 8 ? 6 : cold <= 27 ? 2 : 0;
            int middle = cold <= 4 ? -1 : cold <= 18 ? 5 : cold <= 27 ? 1 : 0;
            Check.due("block(0) by " + cold, x.block(0), end);
            Check.due("block(1) by " + cold, x.block(1), middle);
        }
    }

    private static void blockLeastOfSeveral() {
        Check.part("Terms: BLOCK 'the fewest others ..; of several the least (bits)'");
        ParishCoat x = Check.told("bone 9 1;bone 9 1;bone 9 1;bone 9 1;cold 36");
        int[] due = {2, 1, 1, 1};
        for (int f = 0; f < 4; f++) {
            Check.due("any one is enough for " + f, x.block(f), due[f]);
        }
        // One of 8 by bits is fewer than two of 3 by bits.
        ParishCoat y = Check.told("bone 1 1;bone 1 1;bone 1 1;bone 9 1;bone 9 1;cold 13");
        Check.due("the one", y.block(4), 8);
        Check.due("for the other", y.block(3), 16);
        // 26 of all; 18 without 0 and 1 (bits 3), 12 without 2 (bits 4); 22 without 0, 20 without 1.
        ParishCoat z = Check.told("bone 4 1;bone 4 1;bone 9 1;bone 9 1;cold 20");
        Check.due("the one, though two are less by bits", z.block(3), 4);
    }

    private static void blockWithoutFrozen() {
        Check.part("Terms: FORETOLD 'of those not FROZEN', BLOCK");
        ParishCoat x = Check.told("bone 9 1;bone 9 1;bone 9 1;bone 9 1;quota 1;cold 30;cold 12");
        x.day(0);
        Check.due("of 1, 2, 3: 18 without 3, 8 without 2", x.block(1), 4);
        x.undo();
        x.day(2);
        Check.due("of 0, 1, 3: 4 and 4", x.block(0), 2);
    }

    private static void wrongBehindTheLast() {
        Check.part("Terms: WRONG 'behind the last one nobody'");
        ParishCoat x = Check.told("bone 9 1;bone 9 1;bone 9 1;bone 9 1;bone 9 1;bone 9 1;bone 8 1");
        int[] due = {4, 4, 4, 4, 4, 4, 0};
        for (int f = 0; f < 7; f++) {
            Check.due("wrong(" + f + ")", x.wrong(f), due[f]);
        }
        Check.due("of one alone", Check.told("bone 9 1").wrong(0), 0);
    }

    private static void wrongAtTheRowsEnds() {
        Check.part("Terms: WRONG 'those next behind (one more ..) who are DONE UP'");
        ParishCoat x = Check.told("bone 9 1;bone 7 1;bone 5 1;bone 3 1;favour 0 3;favour 1 3;favour 2 3");
        Check.due("all are DONE UP: all but the first", x.wrong(3), 15);
        x.favour(1, 3, 0);
        Check.due("0, 2, 3: 1 and 3", x.wrong(3), 3 + 1);
        x.favour(2, 3, 0);
        x.favour(0, 3, 0);
        Check.due("3 alone", x.wrong(3), 0);
    }

    private static void wrongFrozen() {
        Check.part("Promise 20: 'FROZEN ones, too' as those next behind, not as those DONE UP");
        ParishCoat x = Check.told("bone 9 1;bone 7 1;bone 5 1;favour 1 0;quota 1;cold 30;cold 0");
        Check.due("0 and 1 are DONE UP: 1 and 2", x.wrong(0), 12);
        x.day(1);
        Check.due("1 is FROZEN: 1 is behind 0", x.wrong(0), 3);
        x.undo();
        x.day(2);
        Check.due("2 is FROZEN: 1 and 2 are behind", x.wrong(0), 12);
    }

    private static void turnsOfNoDays() {
        Check.part("Promise 21: TURNS of 0 DAYS");
        Still still = new Still(ForetoldBoundsTest::oneFrozen);
        int[] due = {1, 32, -1, -1, -1, -1};
        for (int what = 0; what < 6; what++) {
            int w = what;
            still.due("turns(0, " + what + ")", x -> x.turns(0, w), due[what]);
        }
    }

    private static void turnsBounds() {
        Check.part("Promise 21: 'OUTSIDE (what 0 .. 5)', n 0 .. 4");
        Still still = new Still(ForetoldBoundsTest::oneFrozen);
        for (int n : new int[] {-1, 5, -2, 6, Integer.MIN_VALUE, Integer.MAX_VALUE}) {
            for (int what : new int[] {0, 1, 2, 5}) {
                still.due("turns(" + n + ", " + what + ")", x -> x.turns(n, what), -3);
            }
        }
        for (int what : new int[] {-1, 6, -2, 7, Integer.MIN_VALUE, Integer.MAX_VALUE}) {
            for (int n = 0; n <= 4; n++) {
                int m = n;
                still.due("turns(" + n + ", " + what + ")", x -> x.turns(m, what), -3);
            }
        }
        ParishCoat x = Check.told("bone 9 1;quota 1;cold 5");
        for (int n = 0; n <= 4; n++) {
            Check.due("HEALTH by " + n, x.turns(n, 1), 20 - n);
            Check.due("FROZEN by " + n, x.turns(n, 0), 0);
        }
    }

    private static void turnsNotSoMuch() {
        Check.part("Promise 21: 'who asks on the i-th (what 2 and i; NONE: .. n is not so much)'");
        // 0 alone can carry it: he has 2 more each day, else 3 less.
        ParishCoat x = Check.told("pearl 9 1;pearl 9 1;favour 1 0;quota 4;cold 18");
        for (int day = 0; day < 3; day++) {
            x.day(-1);
        }
        Check.due("HEALTH", x.family(0, 3), 11);
        for (int n = 0; n <= 4; n++) {
            for (int i = 0; i < 4; i++) {
                Check.due("turns(" + n + ", " + (2 + i) + ")", x.turns(n, 2 + i), i < n ? 0 : -1);
            }
        }
    }

    private static void turnsOutsideAheadOfNone() {
        Check.part("Promise 21: OUTSIDE, where NONE would fit, too");
        ParishCoat x = Check.told("bone 9 1");
        Check.due("turns(-1, 5)", x.turns(-1, 5), -3);
        Check.due("turns(5, 5)", x.turns(5, 5), -3);
        Check.due("turns(0, 6)", x.turns(0, 6), -3);
        Check.due("turns(0, 5)", x.turns(0, 5), -1);
        Check.due("turns(3, 5)", x.turns(3, 5), -1);
        Check.due("turns(3, 4)", x.turns(3, 4), -1);
    }

    private static void turnsFirstOfSeveral() {
        Check.part("Terms: TURNS 'of several the first (nobody ahead of 0, ..)'");
        ParishCoat alike = Check.told("bone 9 1;bone 9 1;bone 9 1;quota 1;cold 4");
        for (int i = 0; i < 4; i++) {
            Check.due("nobody is better off: nobody on " + i, alike.turns(4, 2 + i), -1);
        }
        ParishCoat two = Check.told("bone 8 1;bone 9 1;bone 9 1;quota 1;cold 5;cold 4");
        // Who wears it by COLD 5 with 4 wants 1, as who does not: all alike on the first day, 2 more on the second.
        Check.due("the first day", two.turns(2, 2), -1);
        Check.due("the second", two.turns(2, 3), 0);
        Check.due("HEALTH", two.turns(2, 1), 58);
        Check.due("three days: the second", two.turns(3, 3), 0);
        // 0 has 19 by the fourth, the others 18: he would have but 1 more.
        int[] four = {-1, 0, -1, 1};
        for (int i = 0; i < 4; i++) {
            Check.due("four days: on " + i, two.turns(4, 2 + i), four[i]);
        }
    }

    private static void turnsFewestAheadOfHealth() {
        Check.part("Terms: TURNS 'by which fewest are FROZEN then, of these .. HEALTH of all is most'");
        // 0 has 1 left: by COLD 5 he has none, whether he asks (4 of warmth) or not.
        ParishCoat x = Check.told("bone 8 1;bone 2 1;quota 1;cold 23;cold 5;cold 4");
        x.day(0);
        Check.due("0 has 1 left", x.family(0, 3), 1);
        Check.due("1 has 16", x.family(1, 3), 16);
        Check.due("nobody saves him on a day of 5", x.turns(1, 0), 1);
        Check.due("nobody asks", x.turns(1, 2), -1);
        Check.due("HEALTH", x.turns(1, 1), 15);
        x.favour(1, 0, 1);
        Check.due("by two he is saved", x.turns(1, 0), 0);
        Check.due("he asks", x.turns(1, 2), 0);
        Check.due("HEALTH", x.turns(1, 1), 18);
        turnsSaveOneForMuch();
    }

    /** By another there would be more HEALTH together, but one more FROZEN. */
    private static void turnsSaveOneForMuch() {
        ParishCoat x = Check.told("bone 9 1;bone 9 1;bone 9 1;favour 1 0;favour 0 1;favour 2 1;quota 2;cold 37;cold 20");
        x.day(0);
        Check.due("0 has 1 left", x.family(0, 3), 1);
        Check.due("1 and 2 have 13", x.family(1, 3) * 100 + x.family(2, 3), 1313);
        // By COLD 20: 0 asks and wants 2: FROZEN. 1 asks with all: 27, 2 more.
        Check.due("0 can not be saved", x.turns(1, 0), 1);
        Check.due("1 asks", x.turns(1, 2), 1);
        Check.due("HEALTH", x.turns(1, 1), 15 + 9);
        x.favour(2, 0, 1);
        Check.due("0 is saved", x.turns(1, 0), 0);
        Check.due("0 asks", x.turns(1, 2), 0);
        Check.due("HEALTH", x.turns(1, 1), 3 + 9 + 9);
    }

    private static void turnsOfFrozen() {
        Check.part("Terms: TURNS 'a FROZEN one asks as nobody does'");
        ParishCoat x = Check.told("bone 9 1;bone 9 1;quota 1;cold 30;cold 4");
        x.day(0);
        Check.due("0 is FROZEN", x.count(5), 1);
        Check.due("one yet", x.turns(1, 0), 1);
        Check.due("1 asks", x.turns(1, 2), 1);
        Check.due("HEALTH", x.turns(1, 1), 16);
        for (int many = 1; many <= 7; many++) {
            turnsOfAllFrozen(many);
        }
    }

    private static void turnsOfAllFrozen(int many) {
        ParishCoat x = Check.told("bone 9 1;".repeat(many) + "quota 1;cold 40;cold 4;cold 40;cold 40");
        x.day(-1);
        Check.due("0 would ask before", x.turns(1, 2), 0);
        x.day(-1);
        x.day(-1);
        Check.due("all freeze", x.day(-1), (1 << many) - 1);
        for (int n = 0; n <= 4; n++) {
            Check.due("all are FROZEN", x.turns(n, 0), many);
            Check.due("no HEALTH", x.turns(n, 1), 0);
            for (int what = 2; what < 6; what++) {
                Check.due("nobody", x.turns(n, what), -1);
            }
        }
    }

    private static void turnsOfNoFamilies() {
        Check.part("Promise 21: TURNS of no families");
        Still still = new Still(ParishCoat::new);
        for (int n = 0; n <= 4; n++) {
            int m = n;
            int[] due = {0, 0, -1, -1, -1, -1};
            for (int what = 0; what < 6; what++) {
                int w = what;
                still.due("turns(" + n + ", " + what + ")", x -> x.turns(m, w), due[what]);
            }
        }
    }

    private static void turnsOfColdsAgain() {
        Check.part("Promise 21: TURNS from this DAY on, COLDS again from the first on");
        ParishCoat x = Check.told("bone 1 1;quota 20;cold 40;cold 5;cold 0");
        int[] losses = {8, 1, 0};
        for (int day = 0; day < 3; day++) {
            int health = x.count(6);
            for (int n = 0; n <= 4; n++) {
                int left = health;
                for (int i = 0; i < n; i++) {
                    left = Math.max(0, left - losses[(day + i) % 3]);
                }
                Check.due("HEALTH from " + day + " by " + n, x.turns(n, 1), left);
            }
            x.day(-1);
        }
    }

    private static void turnsAcrossNights() {
        Check.part("Promise 21: TURNS by the WEIGHTS of each DAY");
        ParishCoat x = Check.told("brass 9 1;loose 9 1;favour 0 1;quota 2;cold 18");
        // By day both (1 and 1) carry it for 1; by night 0 alone has 2, and both have (2 and 0).
        Check.due("the first", x.turns(1, 2), 1);
        Check.due("HEALTH", x.turns(1, 1), 37);
        Check.due("of two days, the first", x.turns(2, 2), 1);
        Check.due("of two days, the second", x.turns(2, 3), 1);
        Check.due("of two days, HEALTH", x.turns(2, 1), 34);
        ParishCoat nights = Check.told("brass 9 1;bone 9 1;favour 0 1;quota 3;cold 18");
        int[] askers = {-1, 1, -1, 1};
        for (int i = 0; i < 4; i++) {
            Check.due("by nights alone, on " + i, nights.turns(4, 2 + i), askers[i]);
        }
    }

    private static void turnsOfEachOnEachDay() {
        Check.part("Promise 21: 'who asks on the i-th', each FAMILY on each DAY");
        for (int f = 0; f < 7; f++) {
            int beside = f == 0 ? 1 : f - 1;
            // 2 could wear it too, where it is not he, but by two who are not side by side.
            String second = f == 2 ? "mild" : "favour " + (f == 0 ? 4 : 0) + " 2";
            ParishCoat x = Check.told("bone 9 1;".repeat(7) + "favour " + beside + " " + f + ";" + second + ";quota 2;cold 18");
            Check.due("carried for 2", x.carried(2), 1);
            x.day(-1);
            x.day(-1);
            // All have 14; who wears it has 2 more each day, others 3 less: a day left out is never made good.
            for (int n = 1; n <= 4; n++) {
                Check.due("HEALTH of " + n + " days for " + f, x.turns(n, 1), Math.min(20, 14 + 2 * n) + 6 * (14 - 3 * n));
                for (int i = 0; i < n; i++) {
                    Check.due(f + " asks on " + i + " of " + n, x.turns(n, 2 + i), f);
                }
            }
        }
    }

    private static void turnsChangeNothing() {
        Check.part("Terms: FORETOLD (nothing changes)");
        Still still = new Still(ForetoldBoundsTest::oneFrozen);
        for (int what = 0; what < 6; what++) {
            int w = what;
            still.due("turns(4, " + what + ")", x -> x.turns(4, w), oneFrozen().turns(4, w));
        }
        still.due("carried(2)", x -> x.carried(2), 1);
        still.due("swings(2)", x -> x.swings(2), 1);
        still.due("block(2)", x -> x.block(2), 1);
        still.due("wrong(2)", x -> x.wrong(2), 4);
    }
}
