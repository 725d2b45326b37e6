/** The bounds of days (promises 8 to 12), a test a sentence. */
final class DayBoundsTest {
    private static final int[] NO_FAMILY_OF_THREE =
        {-1, 3, -2, 4, 7, 31, 32, 34, Integer.MIN_VALUE, Integer.MAX_VALUE};

    private DayBoundsTest() {
    }

    static void run() {
        favourWhatItWas();
        favourEveryPair();
        favourTakenFromEveryPair();
        favourUnknown();
        favourHimself();
        favourOutside();
        favourNot();
        favourRefusalsInOrder();
        dayUnknown();
        dayOfNoFamilies();
        dayNot();
        dayFull();
        dayCarriedAtQuota();
        dayAskedButNotCarried();
        dayWarmAsTheCold();
        dayTwentyAtMost();
        dayAsMuchLessAsIsWanting();
        dayColdByFiveCut();
        dayNoneLeft();
        dayOnlyThoseFrozenByIt();
        dayFrozenStayFrozen();
        dayNextDay();
        undoNone();
        undoOneByOne();
        undoTheLastEight();
        undoFromFullBackAgain();
        undoFavours();
        undoAndBackOfSeven();
        undoLeavesTheRest();
        undoOfRefusedCalls();
        keepUnknown();
        keepBoth();
        keepAgain();
        keepChangesNothing();
        keepAllAsItIs();
        backUnknown();
        backNothingKept();
        backSinceTheLastText();
        backOfNoText();
        backNothingCanBeUndone();
        backLeavesSeen();
        backLeavesTheText();
        backLeavesKept();
    }

    /** Family 1 is FROZEN, DAY 2, two votes are SEEN, 1 is kept, and letters are written. */
    private static ParishCoat someFrozen() {
        ParishCoat x = Check.told("bone 9 1;brass 9 2;pearl 9 3;favour 0 2;favour 2 0;quota 1;cold 24;cold 4");
        Check.due("day(1)", x.day(1), 2);
        x.seen(3, 0, 1);
        x.keep(1);
        x.day(0);
        x.seen(4, 1, 1);
        Check.write(x, "quota 9");
        return x;
    }

    private static void favourWhatItWas() {
        Check.part("Promise 8: 'on 1, or not (0): what it was'");
        ParishCoat x = Check.told("bone 1 1;bone 1 1;bone 1 1");
        int[][] calls = {{0, 0}, {1, 0}, {1, 1}, {1, 1}, {0, 1}, {0, 0}, {1, 0}};
        for (int[] call : calls) {
            Check.due("favour(0, 1, " + call[0] + ")", x.favour(0, 1, call[0]), call[1]);
            Check.due("family(0, 4)", x.family(0, 4), 2 * call[0]);
            Check.due("family(1, 4)", x.family(1, 4), 0);
        }
    }

    private static void favourEveryPair() {
        Check.part("Promise 8: 'One FAVOURS another one', the first and the last");
        ParishCoat x = Check.told("bone 1 1;bone 1 1;bone 1 1;bone 1 1;bone 1 1;bone 1 1;bone 1 1");
        for (int a = 0; a < 7; a++) {
            int whom = 0;
            for (int b = 0; b < 7; b++) {
                if (a != b) {
                    Check.due("favour(" + a + ", " + b + ", 1)", x.favour(a, b, 1), 0);
                    whom |= 1 << b;
                }
                Check.due("family(" + a + ", 4)", x.family(a, 4), whom);
            }
        }
        for (int f = 0; f < 7; f++) {
            Check.due("all are done up for " + f, x.family(f, 5), 127);
        }
    }

    private static void favourTakenFromEveryPair() {
        Check.part("Promise 8: 'or not (0)', of what a text told");
        for (int a = 0; a < 7; a++) {
            for (int b = 0; b < 7; b++) {
                if (a == b) {
                    continue;
                }
                ParishCoat x = Check.told("bone 1 1;".repeat(7) + "favour " + a + " " + b + ";favour " + b + " " + a);
                Check.due("favour(" + a + ", " + b + ", 0)", x.favour(a, b, 0), 1);
                Check.due("whom he favours", x.family(a, 4), 0);
                Check.due("the other favours him still", x.family(b, 4), 1 << a);
                Check.due("for the other", x.family(b, 5), 1 << b);
                Check.tell(x, "mild");
                Check.due("as told", x.family(a, 4), 1 << b);
            }
        }
    }

    private static void favourUnknown() {
        Check.part("Promise 8: 'UNKNOWN' (no such FAMILY)");
        Still still = new Still(DayBoundsTest::someFrozen);
        for (int f : NO_FAMILY_OF_THREE) {
            for (int on = 0; on < 2; on++) {
                int o = on;
                still.due("favour(" + f + ", 0, " + on + ")", x -> x.favour(f, 0, o), -2);
                still.due("favour(0, " + f + ", " + on + ")", x -> x.favour(0, f, o), -2);
                still.due("favour(" + f + ", " + f + ", " + on + ")", x -> x.favour(f, f, o), -2);
            }
        }
        Check.due("of none", new ParishCoat().favour(0, 1, 1), -2);
    }

    private static void favourHimself() {
        Check.part("Terms: UNKNOWN, 'one and himself, where two are asked'");
        Still still = new Still(DayBoundsTest::someFrozen);
        for (int f = 0; f < 3; f++) {
            for (int on : new int[] {0, 1, 2, -1}) {
                int g = f;
                still.due("favour(" + f + ", " + f + ", " + on + ")", x -> x.favour(g, g, on), -2);
            }
        }
    }

    private static void favourOutside() {
        Check.part("Promise 8: 'OUTSIDE' (on 1, 0)");
        Still still = new Still(DayBoundsTest::someFrozen);
        for (int on : new int[] {-1, 2, -2, 3, Integer.MIN_VALUE, Integer.MAX_VALUE}) {
            still.due("favour(0, 2, " + on + ")", x -> x.favour(0, 2, on), -3);
            still.due("favour(2, 0, " + on + ")", x -> x.favour(2, 0, on), -3);
        }
    }

    private static void favourNot() {
        Check.part("Promise 8: 'NOT: one of them is FROZEN'");
        Still still = new Still(DayBoundsTest::someFrozen);
        for (int on = 0; on < 2; on++) {
            int o = on;
            still.due("favour(1, 0, " + on + ")", x -> x.favour(1, 0, o), -4);
            still.due("favour(0, 1, " + on + ")", x -> x.favour(0, 1, o), -4);
            still.due("favour(1, 2, " + on + ")", x -> x.favour(1, 2, o), -4);
            still.due("favour(2, 1, " + on + ")", x -> x.favour(2, 1, o), -4);
        }
        Check.due("neither is FROZEN", someFrozen().favour(0, 2, 0), 1);
    }

    private static void favourRefusalsInOrder() {
        Check.part("Promise 8: UNKNOWN ahead of OUTSIDE ahead of NOT");
        Still still = new Still(DayBoundsTest::someFrozen);
        for (int on : new int[] {-1, 2, Integer.MIN_VALUE, Integer.MAX_VALUE}) {
            still.due("favour(3, 0, " + on + ")", x -> x.favour(3, 0, on), -2);
            still.due("favour(0, -1, " + on + ")", x -> x.favour(0, -1, on), -2);
            still.due("favour(1, 3, " + on + ")", x -> x.favour(1, 3, on), -2);
            still.due("favour(1, 1, " + on + ")", x -> x.favour(1, 1, on), -2);
            still.due("favour(1, 0, " + on + ")", x -> x.favour(1, 0, on), -3);
            still.due("favour(0, 1, " + on + ")", x -> x.favour(0, 1, on), -3);
        }
        still.due("a FROZEN one and no such", x -> x.favour(1, 3, 1), -2);
        still.due("no such and a FROZEN one", x -> x.favour(3, 1, 1), -2);
    }

    private static void dayUnknown() {
        Check.part("Promise 9: 'UNKNOWN' (but NONE: nobody)");
        Still still = new Still(DayBoundsTest::someFrozen);
        for (int f : NO_FAMILY_OF_THREE) {
            if (f != -1) {
                still.due("day(" + f + ")", x -> x.day(f), -2);
            }
        }
        Check.due("nobody", someFrozen().day(-1), 0);
        Check.due("the last one, who wants 16 and has 16", someFrozen().day(2), 4);
    }

    private static void dayOfNoFamilies() {
        Check.part("Promise 9: a DAY of no families");
        Still still = new Still(ParishCoat::new);
        for (int f : new int[] {0, 1, -2, Integer.MIN_VALUE, Integer.MAX_VALUE}) {
            still.due("day(" + f + ")", x -> x.day(f), -2);
        }
        ParishCoat x = new ParishCoat();
        for (int day = 0; day < 20; day++) {
            Check.due("the DAY", x.count(1), day);
            Check.due("day(-1)", x.day(-1), 0);
            Check.due("can be undone", x.count(8), Math.min(day + 1, 8));
        }
    }

    private static void dayNot() {
        Check.part("Promise 9: 'NOT: he is FROZEN'");
        Still still = new Still(DayBoundsTest::someFrozen);
        still.due("day(1)", x -> x.day(1), -4);
        Check.due("another one", someFrozen().day(0), 0);
        ParishCoat all = Check.told("bone 9 1;bone 9 1;cold 40");
        all.day(-1);
        all.day(-1);
        Check.due("all freeze", all.day(-1), 3);
        Check.due("day(0)", all.day(0), -4);
        Check.due("day(1)", all.day(1), -4);
        Check.due("nobody can ask yet", all.day(-1), 0);
        Check.due("the DAY", all.count(1), 4);
    }

    /** It takes more than 512 calls to come there, behind which answers are free; the class does not count them. */
    private static void dayFull() {
        Check.part("Promise 9: 'FULL: it is DAY 999'; UNKNOWN and NOT come ahead of it");
        // Alone and with a button of warmth 1 he wants 4 a day: 0 asks for five days and is FROZEN by the fifth.
        ParishCoat x = Check.told("bone 1 1;bone 9 1;quota 1;cold 4");
        for (int day = 0; day < 998; day++) {
            Check.due("day " + day, x.day(day < 5 ? 0 : -1), day == 4 ? 1 : 0);
        }
        Check.due("DAY 998", x.count(1), 998);
        Check.due("the last", x.day(1), 0);
        Check.due("DAY 999", x.count(1), 999);
        Check.refused(x, "day(-1)", () -> x.day(-1), -5);
        Check.refused(x, "day(1)", () -> x.day(1), -5);
        Check.refused(x, "day(0)", () -> x.day(0), -4);
        Check.refused(x, "day(2)", () -> x.day(2), -2);
        Check.refused(x, "day(-2)", () -> x.day(-2), -2);
        Check.due("keep()", x.keep(0), 999);
        Check.due("turns go on", x.turns(1, 1), 20);
        Check.due("undo()", x.undo(), 7);
        Check.due("from full back again", x.count(1), 998);
        Check.due("day(1)", x.day(1), 0);
        Check.refused(x, "day(1)", () -> x.day(1), -5);
        Check.due("back()", x.back(0), 999);
        Check.refused(x, "day(1)", () -> x.day(1), -5);
    }

    private static void dayCarriedAtQuota() {
        Check.part("Terms: 'CARRIED, if their WEIGHTS together are QUOTA at least'");
        String seven = "pearl 1 1;pearl 1 1;pearl 1 1;pearl 1 1;pearl 1 1;pearl 1 1;pearl 1 1";
        for (int quota = 1; quota <= 20; quota++) {
            for (int favourers = 0; favourers < 7; favourers++) {
                ParishCoat x = Check.told(seven + ";quota " + quota + ";cold 5");
                for (int f = 1; f <= favourers; f++) {
                    x.favour(f, 0, 1);
                }
                int weight = 2 * (favourers + 1);
                Check.due("carried by " + weight + " of " + quota, x.carried(0), weight >= quota ? 1 : 0);
            }
        }
    }

    private static void dayAskedButNotCarried() {
        Check.part("Terms: '(he too, if he does not wear it)'");
        ParishCoat x = Check.told("bone 9 1;bone 9 1;quota 2;cold 19");
        Check.due("one below QUOTA", x.day(0), 0);
        Check.due("3 less", x.family(0, 3), 17);
        Check.due("3 less", x.family(1, 3), 17);
        x.favour(1, 0, 1);
        Check.due("at QUOTA", x.day(0), 0);
        Check.due("he wears it, 1 is wanting", x.family(0, 3), 16);
        Check.due("3 less", x.family(1, 3), 14);
    }

    private static void dayWarmAsTheCold() {
        Check.part("Terms: 'if WARM .. is no less than the COLD of that DAY, he has 2 HEALTH more'");
        for (int cold = 10; cold <= 30; cold++) {
            ParishCoat x = Check.told("bone 9 1;bone 9 1;favour 1 0;quota 2;cold 20;cold " + cold);
            x.day(-1);
            x.day(0);
            int want = cold <= 18 ? 16 + 2 : 16 - (cold - 18);
            Check.due("HEALTH by COLD " + cold, x.family(0, 3), want);
        }
    }

    private static void dayTwentyAtMost() {
        Check.part("Terms: '2 HEALTH more (20 at most)'");
        for (int before = 16; before <= 20; before++) {
            ParishCoat x = Check.told("bone 9 1;quota 1;cold " + 5 * (20 - before) + ";cold 4");
            x.day(-1);
            Check.due("HEALTH", x.family(0, 3), before);
            x.day(0);
            Check.due("HEALTH after " + before, x.family(0, 3), Math.min(before + 2, 20));
        }
    }

    private static void dayAsMuchLessAsIsWanting() {
        Check.part("Terms: 'else as much less as is wanting'");
        for (int cold = 4; cold <= 40; cold++) {
            ParishCoat x = Check.told("bone 9 1;bone 1 1;quota 1;cold " + cold);
            int frozen = cold - 4 >= 20 ? 1 : 0;
            Check.due("day(0) by COLD " + cold, x.day(0), frozen);
            Check.due("HEALTH by COLD " + cold, x.family(0, 3), frozen == 1 ? 0 : 20 - (cold - 4));
        }
    }

    private static void dayColdByFiveCut() {
        Check.part("Terms: 'COLD by 5, cut, less'");
        for (int cold = 0; cold <= 40; cold++) {
            ParishCoat x = Check.told("bone 9 1;bone 1 1;quota 1;cold " + cold);
            x.day(0);
            Check.due("who does not wear it, COLD " + cold, x.family(1, 3), 20 - cold / 5);
            x.undo();
            x.day(-1);
            Check.due("nobody asks, COLD " + cold, x.family(0, 3), 20 - cold / 5);
        }
    }

    private static void dayNoneLeft() {
        Check.part("Terms: 'Who has none left is FROZEN (HEALTH 0)'");
        // Alone he has 4 of warmth: COLD 23 leaves him 1, COLD 24 none, COLD 40 would leave 16 below none.
        int[] colds = {23, 24, 25, 40};
        int[] healths = {1, 0, 0, 0};
        for (int i = 0; i < colds.length; i++) {
            ParishCoat x = Check.told("bone 9 1;quota 1;cold " + colds[i]);
            Check.due("day(0) by COLD " + colds[i], x.day(0), i == 0 ? 0 : 1);
            Check.due("HEALTH", x.family(0, 3), healths[i]);
            Check.due("HEALTH of all", x.count(6), healths[i]);
            Check.due("FROZEN", x.count(5), i == 0 ? 0 : 1);
        }
        ParishCoat y = Check.told("bone 9 1;cold 40;cold 35;cold 20;cold 0;cold 5");
        int[] left = {12, 5, 1, 1, 0};
        for (int day = 0; day < 5; day++) {
            Check.due("day(-1) on " + day, y.day(-1), day == 4 ? 1 : 0);
            Check.due("HEALTH", y.family(0, 3), left[day]);
        }
        ParishCoat z = Check.told("bone 9 1;cold 40");
        z.day(-1);
        z.day(-1);
        Check.due("4 left, 8 less", z.day(-1) * 10 + z.family(0, 3), 10);
    }

    private static void dayOnlyThoseFrozenByIt() {
        Check.part("Promise 9: 'those FROZEN by it, by bits'");
        ParishCoat x = Check.told("bone 9 1;bone 9 1;bone 9 1;bone 9 1;bone 9 1;bone 9 1;bone 9 1;quota 1;cold 40");
        Check.due("0 by the first", x.day(0), 1);
        Check.due("6 by the second", x.day(6), 64);
        Check.due("all others by the third", x.day(-1), 62);
        Check.due("none any more", x.day(-1), 0);
        Check.due("FROZEN", x.count(5), 127);
    }

    private static void dayFrozenStayFrozen() {
        Check.part("Terms: 'All others who are not FROZEN': a FROZEN one stays so, at HEALTH 0");
        ParishCoat x = Check.told("bone 9 1;bone 9 1;favour 0 1;quota 1;cold 30;cold 0");
        Check.due("day(0)", x.day(0), 1);
        // By the 30 of every second day 1 has 6 less, by the days between 2 more.
        for (int day = 1; day <= 8; day++) {
            Check.due("day " + day, x.day(day % 2 == 1 ? 1 : -1), day == 8 ? 2 : 0);
            Check.due("HEALTH of 0", x.family(0, 3), 0);
            Check.due("0 is FROZEN", x.count(5) & 1, 1);
        }
    }

    private static void dayNextDay() {
        Check.part("Terms: 'Then it is the next DAY'");
        ParishCoat x = Check.told("bone 9 1;quota 2;cold 0");
        for (int day = 0; day < 30; day++) {
            Check.due("the DAY", x.count(1), day);
            x.day(day % 2 - 1);
        }
        ParishCoat y = new ParishCoat();
        for (int day = 0; day < 511; day++) {
            Check.due("day(-1)", y.day(-1), 0);
        }
        Check.due("the 512th call", y.count(1), 511);
    }

    private static void undoNone() {
        Check.part("Promise 10: 'NOT: none'");
        Still fresh = new Still(ParishCoat::new);
        fresh.due("of a new object", ParishCoat::undo, -4);
        Still told = new Still(() -> Check.told("bone 9 1;bone 9 1;favour 0 1"));
        told.due("behind a text", ParishCoat::undo, -4);
        Still back = new Still(() -> {
            ParishCoat x = someFrozen();
            x.back(1);
            return x;
        });
        back.due("behind back()", ParishCoat::undo, -4);
    }

    private static void undoOneByOne() {
        Check.part("Promise 10: 'how many can be undone yet'");
        for (int days = 1; days <= 8; days++) {
            ParishCoat x = Check.told("bone 9 1;cold 10");
            for (int i = 0; i < days; i++) {
                x.day(-1);
                Check.due("count(8)", x.count(8), i + 1);
            }
            for (int i = days - 1; i >= 0; i--) {
                Check.due("undo()", x.undo(), i);
                Check.due("count(8)", x.count(8), i);
                Check.due("the DAY", x.count(1), i);
                Check.due("HEALTH", x.family(0, 3), 20 - 2 * i);
            }
            Check.due("undo() of none", x.undo(), -4);
        }
    }

    private static void undoTheLastEight() {
        Check.part("Promise 10: '(the last 8 can be)'");
        for (int days = 9; days <= 25; days++) {
            ParishCoat x = Check.told("bone 9 1;cold 5;quota 20");
            for (int i = 0; i < days; i++) {
                x.day(-1);
            }
            Check.due("count(8)", x.count(8), 8);
            for (int i = 1; i <= 8; i++) {
                Check.due("undo() " + i, x.undo(), 8 - i);
                Check.due("the DAY", x.count(1), days - i);
                Check.due("HEALTH", x.count(6), Math.max(0, 20 - (days - i)));
                Check.due("FROZEN", x.count(5), days - i >= 20 ? 1 : 0);
            }
            Check.due("a ninth", x.undo(), -4);
            Check.due("the DAY", x.count(1), days - 8);
        }
    }

    private static void undoFromFullBackAgain() {
        Check.part("Promise 10: eight, some undone, and on again");
        ParishCoat x = Check.told("bone 9 1;cold 0");
        for (int i = 0; i < 11; i++) {
            x.day(-1);
        }
        Check.due("undo()", x.undo(), 7);
        Check.due("undo()", x.undo(), 6);
        Check.due("undo()", x.undo(), 5);
        Check.due("the DAY", x.count(1), 8);
        for (int i = 6; i <= 10; i++) {
            x.day(0);
            Check.due("count(8)", x.count(8), Math.min(i, 8));
        }
        Check.due("the DAY", x.count(1), 13);
        for (int i = 7; i >= 0; i--) {
            Check.due("undo()", x.undo(), i);
        }
        Check.due("the DAY", x.count(1), 5);
        Check.due("undo()", x.undo(), -4);
    }

    private static void undoFavours() {
        Check.part("Promise 10: 'The latest favour(), day() is undone'");
        ParishCoat x = Check.told("bone 9 1;bone 9 1;favour 1 0;cold 5");
        x.favour(0, 1, 1);
        x.day(-1);
        x.favour(1, 0, 0);
        x.favour(0, 1, 1);
        Check.due("four", x.count(8), 4);
        Check.due("one that changed nothing", x.undo(), 3);
        Check.due("0 favours 1", x.family(0, 4), 2);
        Check.due("a feud", x.undo(), 2);
        Check.due("1 favours 0", x.family(1, 4), 1);
        Check.due("the DAY", x.count(1), 1);
        Check.due("a day", x.undo(), 1);
        Check.due("the DAY", x.count(1), 0);
        Check.due("0 favours 1", x.family(0, 4), 2);
        Check.due("a favour", x.undo(), 0);
        Check.due("0 does not", x.family(0, 4), 0);
        Check.due("undo()", x.undo(), -4);
    }

    private static void undoAndBackOfSeven() {
        Check.part("Promises 10 to 12: undone and kept of each FAMILY, the first to the seventh");
        ParishCoat x = Check.told("bone 9 1;bone 9 1;bone 9 1;bone 9 1;bone 9 1;bone 9 1;bone 9 1;quota 1;cold 14");
        for (int f = 0; f < 7; f++) {
            int other = (f + 1) % 7;
            x.keep(f % 2);
            x.favour(f, other, 1);
            x.day(other);
            String after = Check.state(x);
            Check.due("FAVOURS", x.family(f, 4), 1 << other);
            Check.due("his HEALTH goes by his own way", x.family(other, 3) == x.family((f + 3) % 7, 3) ? 1 : 0, 0);
            x.undo();
            Check.due("undone, the DAY of " + f, x.count(6), 140);
            x.undo();
            Check.due("undone, FAVOURS of " + f, x.family(f, 4), 0);
            x.favour(f, other, 1);
            x.day(other);
            Check.due("the same again", Check.state(x).equals(after) ? 1 : 0, 1);
            Check.due("back()", x.back(f % 2), 0);
            Check.due("as kept, FAVOURS of " + f, x.family(f, 4), 0);
            Check.due("as kept, HEALTH", x.family(other, 3), 20);
        }
    }

    private static void undoLeavesTheRest() {
        Check.part("Promise 10: only favour(), day() are undone");
        ParishCoat x = someFrozen();
        x.keep(0);
        Check.due("undo()", x.undo(), 1);
        Check.due("undo()", x.undo(), 0);
        Check.due("nobody is FROZEN", x.count(5), 0);
        Check.due("HEALTH", x.count(6), 60);
        Check.due("what is SEEN stays", x.count(7), 2);
        Check.due("THE TEXT stays", x.count(9), 7);
        Check.due("what is kept stays, 1", x.back(1), 1);
        Check.due("what is kept stays, 0", x.back(0), 2);
    }

    private static void undoOfRefusedCalls() {
        Check.part("Promise 10: refused calls and questions can not be undone");
        ParishCoat x = Check.told("bone 9 1;bone 9 1;quota 1;cold 30");
        x.day(0);
        x.day(0);
        x.day(2);
        x.favour(0, 1, 1);
        x.favour(1, 1, 1);
        x.favour(0, 1, 2);
        x.turns(4, 0);
        x.keep(0);
        x.seen(1, 1, 1);
        Check.due("one", x.count(8), 1);
        Check.due("undo()", x.undo(), 0);
        Check.due("undo()", x.undo(), -4);
    }

    private static void keepUnknown() {
        Check.part("Promise 11: 'UNKNOWN: no such k' (k 0, 1)");
        Still still = new Still(DayBoundsTest::someFrozen);
        for (int k : new int[] {-1, 2, -2, 3, 32, Integer.MIN_VALUE, Integer.MAX_VALUE}) {
            still.due("keep(" + k + ")", x -> x.keep(k), -2);
        }
    }

    private static void keepBoth() {
        Check.part("Promise 11: 'is kept (k 0, 1): the DAY'");
        ParishCoat x = Check.told("bone 9 1;cold 5");
        Check.due("keep(0) on DAY 0", x.keep(0), 0);
        x.day(-1);
        x.day(-1);
        Check.due("keep(1) on DAY 2", x.keep(1), 2);
        x.day(-1);
        Check.due("back(0)", x.back(0), 0);
        Check.due("HEALTH", x.count(6), 20);
        Check.due("back(1)", x.back(1), 2);
        Check.due("HEALTH", x.count(6), 18);
    }

    private static void keepAgain() {
        Check.part("Promise 11: what is kept anew takes the place of what was kept");
        ParishCoat x = Check.told("bone 9 1;cold 5");
        x.keep(0);
        x.keep(1);
        x.day(-1);
        Check.due("keep(0)", x.keep(0), 1);
        x.day(-1);
        Check.due("back(0)", x.back(0), 1);
        Check.due("HEALTH", x.count(6), 19);
        Check.due("the other is as it was", x.back(1), 0);
        Check.due("HEALTH", x.count(6), 20);
    }

    private static void keepChangesNothing() {
        Check.part("Promise 11: keep() leaves all else as it is");
        ParishCoat x = someFrozen();
        String before = Check.state(x);
        Check.due("keep(0)", x.keep(0), 2);
        Check.due("keep(1)", x.keep(1), 2);
        Check.due("as it was", Check.state(x).equals(before) ? 1 : 0, 1);
    }

    private static void keepAllAsItIs() {
        Check.part("Promise 11: 'All as it is .. is kept'; promise 12: 'It is as it was kept'");
        ParishCoat x = Check.told("bone 9 1;brass 8 2;pearl 7 3;favour 0 1;quota 1;cold 26;cold 5");
        x.day(2);
        Check.due("FROZEN", x.count(5), 4);
        x.favour(0, 1, 0);
        x.favour(1, 0, 1);
        x.keep(0);
        x.favour(0, 1, 1);
        x.favour(1, 0, 0);
        for (int day = 0; day < 8; day++) {
            x.day(-1);
        }
        Check.due("all are FROZEN", x.count(5), 7);
        Check.due("back(0)", x.back(0), 1);
        Check.due("the DAY", x.count(1), 1);
        Check.due("COLD of it", x.count(3), 5);
        Check.due("FROZEN", x.count(5), 4);
        Check.due("HEALTH of 0", x.family(0, 3), 15);
        Check.due("HEALTH of 2", x.family(2, 3), 0);
        Check.due("whom 0 favours", x.family(0, 4), 0);
        Check.due("whom 1 favours", x.family(1, 4), 1);
    }

    private static void backUnknown() {
        Check.part("Promise 12: 'UNKNOWN'");
        Still still = new Still(() -> {
            ParishCoat x = someFrozen();
            x.keep(0);
            return x;
        });
        for (int k : new int[] {-1, 2, -2, 3, 32, Integer.MIN_VALUE, Integer.MAX_VALUE}) {
            still.due("back(" + k + ")", x -> x.back(k), -2);
        }
        Check.due("ahead of NOT", new ParishCoat().back(2), -2);
    }

    private static void backNothingKept() {
        Check.part("Promise 12: 'NOT: nothing was kept'");
        Still still = new Still(DayBoundsTest::someFrozen);
        still.due("back(0), where 1 is kept", x -> x.back(0), -4);
        Still none = new Still(() -> Check.told("bone 9 1;bone 9 1"));
        none.due("back(0)", x -> x.back(0), -4);
        none.due("back(1)", x -> x.back(1), -4);
    }

    private static void backSinceTheLastText() {
        Check.part("Promise 12: '.. since the last text'");
        ParishCoat x = someFrozen();
        x.keep(0);
        x.write('!');
        Check.due("a refused text", x.coat(), -4);
        Check.due("is no text, 0", x.back(0), 2);
        Check.due("is no text, 1", x.back(1), 1);
        x.erase();
        Check.due("nor an erased one, 0", x.back(0), 2);
        Check.tell(x, "mild");
        Check.due("a text, 0", x.back(0), -4);
        Check.due("a text, 1", x.back(1), -4);
        Check.due("keep(1)", x.keep(1), 0);
        Check.due("since the text, 1", x.back(1), 0);
        Check.due("but not 0", x.back(0), -4);
    }

    private static void backOfNoText() {
        Check.part("Promise 12: kept where there was no text yet");
        ParishCoat x = new ParishCoat();
        x.day(-1);
        Check.due("keep(0)", x.keep(0), 1);
        x.day(-1);
        Check.due("back(0)", x.back(0), 1);
        Check.due("count(1)", x.count(1), 1);
    }

    private static void backNothingCanBeUndone() {
        Check.part("Promise 12: 'nothing can be undone'");
        ParishCoat x = someFrozen();
        Check.due("before", x.count(8), 2);
        x.back(1);
        Check.due("count(8)", x.count(8), 0);
        Check.due("undo()", x.undo(), -4);
        x.day(-1);
        Check.due("one behind it", x.count(8), 1);
        Check.due("undo()", x.undo(), 0);
        Check.due("the DAY", x.count(1), 1);
        Check.due("undo()", x.undo(), -4);
    }

    private static void backLeavesSeen() {
        Check.part("Promise 11: 'but SEEN'");
        ParishCoat x = someFrozen();
        Check.due("two are SEEN, one was when it was kept", x.count(7), 2);
        x.back(1);
        Check.due("two yet", x.count(7), 2);
        x.forget();
        x.back(1);
        Check.due("none", x.count(7), 0);
    }

    private static void backLeavesTheText() {
        Check.part("Promise 12: a winter is kept, THE TEXT is not of it");
        ParishCoat x = someFrozen();
        Check.due("written since it was kept", x.count(9), 7);
        x.back(1);
        Check.due("stays", x.count(9), 7);
        Check.due("fault()", x.fault(), -1);
        x.keep(0);
        x.erase();
        Check.write(x, "cold");
        x.back(0);
        Check.due("erased and written since", x.count(9), 4);
        Check.due("fault()", x.fault(), 4);
        x.erase();
        x.back(0);
        Check.due("erased since", x.count(9), 0);
    }

    private static void backLeavesKept() {
        Check.part("Promise 12: what is kept stays kept");
        ParishCoat x = someFrozen();
        for (int i = 0; i < 3; i++) {
            Check.due("back(1)", x.back(1), 1);
            x.favour(0, 2, i % 2);
            x.day(2);
        }
        x.back(1);
        Check.due("as it was kept", x.family(0, 4), 4);
        Check.due("HEALTH", x.count(6), 32);
    }
}
