/** The bounds of what was seen, of frosts and of counts (promises 22 to 26), a test a sentence. */
final class SeenBoundsTest {
    private static final int ALL_QUOTAS = 2097150;
    private static final int[] NOT_YES_OR_NO = {-1, 2, -2, 3, Integer.MIN_VALUE, Integer.MAX_VALUE};
    private static final int[] NO_SET_OF_THREE =
        {8, 9, 15, 16, 128, -1, -8, -7, 1 << 30, Integer.MIN_VALUE, Integer.MAX_VALUE};

    private SeenBoundsTest() {
    }

    static void run() {
        seenHowMany();
        seenFullAndBackAgain();
        seenUnknown();
        seenOutside();
        seenRefusalsInOrder();
        seenOfNoFamilies();
        seenOfFrozen();
        seenCanNotBeUndone();
        forgetEmptyAndFull();
        forgetLeavesTheRest();
        quotasOfNothingSeen();
        quotasAtTheWeight();
        quotasOfTheEmptySet();
        quotasOfAll();
        quotasByNight();
        quotasOfFrozen();
        quotasOfSixVotes();
        quotasChangeNothing();
        frostsOutside();
        frostsOfNoDays();
        frostsOfNoneAtLeast();
        frostsOfMoreThanDays();
        frostsOfOddsNone();
        frostsOfOddsTen();
        frostsOfAllDays();
        frostsInLowestTerms();
        countBounds();
        countAtFirst();
        countOfTheFull();
    }

    /** Family 1 is FROZEN; DAY 1, two votes are SEEN, letters are written. */
    private static ParishCoat twoSeen() {
        ParishCoat x = Check.told("bone 9 1;brass 9 2;pearl 9 3;favour 0 2;quota 1;cold 24;cold 8");
        Check.due("day(1)", x.day(1), 2);
        x.keep(0);
        x.seen(7, 0, 1);
        x.seen(4, 1, 0);
        Check.write(x, "quota 9");
        return x;
    }

    private static ParishCoat sixSeen() {
        ParishCoat x = twoSeen();
        for (int i = 3; i <= 6; i++) {
            Check.due("seen", x.seen(7, 1, 1), i);
        }
        return x;
    }

    private static void seenHowMany() {
        Check.part("Promise 22: 'SEEN: how many', 6 at most");
        ParishCoat x = Check.told("bone 9 1;bone 9 1;bone 9 1");
        for (int i = 1; i <= 6; i++) {
            Check.due("seen " + i, x.seen(7, 0, 1), i);
            Check.due("count(7)", x.count(7), i);
        }
        Check.due("a seventh", x.seen(7, 0, 1), -5);
        Check.due("count(7)", x.count(7), 6);
    }

    private static void seenFullAndBackAgain() {
        Check.part("Promise 22: 'FULL', and forget() or a text make room");
        Still still = new Still(SeenBoundsTest::sixSeen);
        still.due("another one", x -> x.seen(1, 1, 1), -5);
        still.due("the empty one", x -> x.seen(0, 0, 0), -5);
        ParishCoat x = sixSeen();
        Check.due("forget()", x.forget(), 6);
        Check.due("seen", x.seen(1, 1, 1), 1);
        ParishCoat y = sixSeen();
        Check.due("coat()", y.coat(), 1);
        for (int i = 1; i <= 6; i++) {
            Check.due("seen", y.seen(1, 1, 1), i);
        }
        Check.due("full again", y.seen(1, 1, 1), -5);
    }

    private static void seenUnknown() {
        Check.part("Promise 22: 'UNKNOWN' (a SET with such)");
        Still still = new Still(SeenBoundsTest::twoSeen);
        for (int set : NO_SET_OF_THREE) {
            for (int night = 0; night < 2; night++) {
                int n = night;
                still.due("seen(" + set + ", " + night + ", 0)", x -> x.seen(set, n, 0), -2);
                still.due("seen(" + set + ", " + night + ", 1)", x -> x.seen(set, n, 1), -2);
            }
        }
        for (int set = 0; set < 8; set++) {
            Check.due("seen(" + set + ", 0, 0)", twoSeen().seen(set, 0, 0), 3);
        }
        ParishCoat full = Check.told("bone 1 1;bone 1 1;bone 1 1;bone 1 1;bone 1 1;bone 1 1;bone 1 1");
        Check.due("all seven", full.seen(127, 0, 0), 1);
        Check.due("an eighth", full.seen(128, 0, 0), -2);
    }

    private static void seenOutside() {
        Check.part("Promise 22: 'OUTSIDE: night, carried not 0, 1'");
        Still still = new Still(SeenBoundsTest::twoSeen);
        for (int number : NOT_YES_OR_NO) {
            for (int other = 0; other < 2; other++) {
                int o = other;
                still.due("seen(7, " + number + ", " + other + ")", x -> x.seen(7, number, o), -3);
                still.due("seen(7, " + other + ", " + number + ")", x -> x.seen(7, o, number), -3);
            }
            still.due("seen(7, " + number + ", " + number + ")", x -> x.seen(7, number, number), -3);
        }
    }

    private static void seenRefusalsInOrder() {
        Check.part("Promise 22: UNKNOWN ahead of OUTSIDE ahead of FULL");
        Still two = new Still(SeenBoundsTest::twoSeen);
        Still six = new Still(SeenBoundsTest::sixSeen);
        for (int number : NOT_YES_OR_NO) {
            for (int set : new int[] {8, -1, Integer.MIN_VALUE, Integer.MAX_VALUE}) {
                two.due("seen(" + set + ", " + number + ", 0)", x -> x.seen(set, number, 0), -2);
                two.due("seen(" + set + ", 0, " + number + ")", x -> x.seen(set, 0, number), -2);
                six.due("full, seen(" + set + ", " + number + ", 0)", x -> x.seen(set, number, 0), -2);
            }
            six.due("full, seen(7, " + number + ", 0)", x -> x.seen(7, number, 0), -3);
            six.due("full, seen(7, 0, " + number + ")", x -> x.seen(7, 0, number), -3);
        }
        six.due("full, seen(8, 0, 0)", x -> x.seen(8, 0, 0), -2);
    }

    private static void seenOfNoFamilies() {
        Check.part("Promise 22: the empty SET, where there are no families");
        ParishCoat x = new ParishCoat();
        Check.due("seen(0, 0, 0)", x.seen(0, 0, 0), 1);
        Check.due("seen(1, 0, 0)", x.seen(1, 0, 0), -2);
        Check.due("seen(-1, 0, 0)", x.seen(-1, 0, 0), -2);
        Check.due("quotas()", x.quotas(), ALL_QUOTAS);
    }

    private static void seenOfFrozen() {
        Check.part("Promise 22: a SET with FROZEN ones is a SET");
        Check.due("FROZEN", twoSeen().count(5), 2);
        Check.due("seen(2, 1, 1)", twoSeen().seen(2, 1, 1), 3);
    }

    private static void seenCanNotBeUndone() {
        Check.part("Promise 22: what is SEEN can not be undone");
        ParishCoat x = twoSeen();
        Check.due("one day", x.count(8), 1);
        Check.due("undo()", x.undo(), 0);
        Check.due("two are SEEN", x.count(7), 2);
        Check.due("undo()", x.undo(), -4);
    }

    private static void forgetEmptyAndFull() {
        Check.part("Promise 23: 'SEEN is nothing: how many there were'");
        ParishCoat x = Check.told("bone 9 1");
        for (int many = 0; many <= 6; many++) {
            for (int i = 0; i < many; i++) {
                x.seen(1, 0, i % 2);
            }
            Check.due("forget() of " + many, x.forget(), many);
            Check.due("count(7)", x.count(7), 0);
            Check.due("quotas()", x.quotas(), ALL_QUOTAS);
            Check.due("forget() of none", x.forget(), 0);
        }
    }

    private static void forgetLeavesTheRest() {
        Check.part("Promise 23: forget() of nothing changes nothing");
        Still still = new Still(() -> {
            ParishCoat x = twoSeen();
            x.forget();
            return x;
        });
        still.due("forget()", ParishCoat::forget, 0);
    }

    private static void quotasOfNothingSeen() {
        Check.part("Promise 24: 'QUOTAS, by bits (1 .. 20)', nothing is SEEN");
        Check.due("of a new object", new ParishCoat().quotas(), ALL_QUOTAS);
        Check.due("whatever QUOTA is", Check.told("bone 1 1;quota 20").quotas(), ALL_QUOTAS);
        Check.due("bit 0 is none", new ParishCoat().quotas() & 1, 0);
        Check.due("bit 21 is none", new ParishCoat().quotas() >> 21, 0);
    }

    private static void quotasAtTheWeight() {
        Check.part("Promise 24: CARRIED is QUOTA at least");
        for (int many = 0; many <= 7; many++) {
            ParishCoat x = Check.told("pearl 1 1;pearl 1 1;pearl 1 1;pearl 1 1;pearl 1 1;pearl 1 1;pearl 1 1");
            int set = (1 << many) - 1;
            int upToWeight = (1 << 2 * many + 1) - 2;
            x.seen(set, 0, 1);
            Check.due("carried by " + 2 * many, x.quotas(), upToWeight);
            x.forget();
            x.seen(set, 0, 0);
            Check.due("not carried by " + 2 * many, x.quotas(), ALL_QUOTAS & ~upToWeight);
            x.seen(set, 1, 1);
            Check.due("both: none", x.quotas(), 0);
        }
    }

    private static void quotasOfTheEmptySet() {
        Check.part("Promise 24: the empty SET is below each QUOTA");
        ParishCoat x = Check.told("bone 1 1");
        x.seen(0, 0, 0);
        x.seen(0, 1, 0);
        Check.due("not carried", x.quotas(), ALL_QUOTAS);
        x.seen(0, 0, 1);
        Check.due("carried", x.quotas(), 0);
    }

    private static void quotasOfAll() {
        Check.part("Promise 24: no SET has 20, so 15 .. 20 can not be told apart");
        ParishCoat x = Check.told("pearl 1 1;pearl 1 1;pearl 1 1;pearl 1 1;pearl 1 1;pearl 1 1;pearl 1 1");
        x.seen(127, 0, 0);
        Check.due("above 14", x.quotas(), ALL_QUOTAS & ~((1 << 15) - 1));
    }

    private static void quotasByNight() {
        Check.part("Promise 24: 'on a DAY that was even or not'");
        String[] kinds = {"bone", "brass", "pearl", "loose"};
        int[][] weights = {{1, 1}, {1, 2}, {2, 2}, {1, 0}};
        for (int kind = 0; kind < 4; kind++) {
            ParishCoat x = Check.told(kinds[kind] + " 1 1;cold 0");
            for (int day = 0; day < 2; day++) {
                for (int night = 0; night < 2; night++) {
                    x.seen(1, night, 1);
                    int want = (1 << weights[kind][night] + 1) - 2;
                    Check.due(kinds[kind] + ", night " + night + ", asked on " + day, x.quotas(), want);
                    x.forget();
                }
                x.day(-1);
            }
        }
    }

    private static void quotasOfFrozen() {
        Check.part("Terms: QUOTAS '(by WEIGHTS of all, FROZEN or not)'");
        ParishCoat x = Check.told("pearl 9 1;bone 9 1;quota 1;cold 30");
        x.seen(3, 0, 1);
        Check.due("before", x.quotas(), 14);
        Check.due("day(0)", x.day(0), 1);
        Check.due("after", x.quotas(), 14);
        x.seen(1, 0, 0);
        Check.due("a FROZEN one alone has 2", x.quotas(), 8);
    }

    private static void quotasOfSixVotes() {
        Check.part("Promise 24: 'by which all that is SEEN would be so', the sixth, too");
        for (int last = 0; last < 6; last++) {
            ParishCoat x = Check.told("bone 1 1;bone 1 1;bone 1 1");
            for (int i = 0; i < 6; i++) {
                x.seen(i == last ? 1 : 7, 0, i == last ? 0 : 1);
            }
            Check.due("all but 1 up to 3", x.quotas(), 12);
        }
    }

    private static void quotasChangeNothing() {
        Check.part("Promise 24: quotas() is a question");
        Still still = new Still(SeenBoundsTest::sixSeen);
        still.due("quotas()", ParishCoat::quotas, 24);
    }

    private static void frostsOutside() {
        Check.part("Promise 25: 'OUTSIDE', n 0 .. 6, k 0 .. 6, q 0 .. 10, part 0, 1");
        Still still = new Still(SeenBoundsTest::twoSeen);
        for (int number : new int[] {-1, 7, -2, 8, Integer.MIN_VALUE, Integer.MAX_VALUE}) {
            still.due("n " + number, x -> x.frosts(number, 0, 5, 0), -3);
            still.due("k " + number, x -> x.frosts(6, number, 5, 0), -3);
        }
        for (int number : new int[] {-1, 11, -2, 12, Integer.MIN_VALUE, Integer.MAX_VALUE}) {
            still.due("q " + number, x -> x.frosts(6, 3, number, 1), -3);
        }
        for (int number : NOT_YES_OR_NO) {
            still.due("part " + number, x -> x.frosts(6, 3, 5, number), -3);
        }
        still.due("the least of each", x -> x.frosts(0, 0, 0, 0), 1);
        still.due("the most of each", x -> x.frosts(6, 6, 10, 1), 1);
    }

    private static void frostsOfNoDays() {
        Check.part("Promise 25: FROSTS of 0 DAYS");
        ParishCoat x = new ParishCoat();
        for (int q = 0; q <= 10; q++) {
            Check.due("0 of 0, above", x.frosts(0, 0, q, 0), 1);
            Check.due("0 of 0, below", x.frosts(0, 0, q, 1), 1);
            for (int k = 1; k <= 6; k++) {
                Check.due(k + " of 0, above", x.frosts(0, k, q, 0), 0);
                Check.due(k + " of 0, below", x.frosts(0, k, q, 1), 1);
            }
        }
    }

    private static void frostsOfNoneAtLeast() {
        Check.part("Promise 25: 0 at least are always");
        ParishCoat x = new ParishCoat();
        for (int n = 0; n <= 6; n++) {
            for (int q = 0; q <= 10; q++) {
                Check.due("above", x.frosts(n, 0, q, 0), 1);
                Check.due("below", x.frosts(n, 0, q, 1), 1);
            }
        }
    }

    private static void frostsOfMoreThanDays() {
        Check.part("Promise 25: more than there are DAYS are never");
        ParishCoat x = new ParishCoat();
        for (int n = 0; n <= 5; n++) {
            for (int k = n + 1; k <= 6; k++) {
                for (int q = 0; q <= 10; q++) {
                    Check.due("above", x.frosts(n, k, q, 0), 0);
                    Check.due("below", x.frosts(n, k, q, 1), 1);
                }
            }
        }
    }

    private static void frostsOfOddsNone() {
        Check.part("Promise 25: FROSTS by 0 of ten");
        ParishCoat x = new ParishCoat();
        for (int n = 1; n <= 6; n++) {
            for (int k = 1; k <= 6; k++) {
                Check.due("above", x.frosts(n, k, 0, 0), 0);
                Check.due("below", x.frosts(n, k, 0, 1), 1);
            }
        }
    }

    private static void frostsOfOddsTen() {
        Check.part("Promise 25: FROSTS by 10 of ten");
        ParishCoat x = new ParishCoat();
        for (int n = 0; n <= 6; n++) {
            for (int k = 0; k <= 6; k++) {
                Check.due(k + " of " + n + ", above", x.frosts(n, k, 10, 0), k <= n ? 1 : 0);
                Check.due(k + " of " + n + ", below", x.frosts(n, k, 10, 1), 1);
            }
        }
    }

    private static void frostsOfAllDays() {
        Check.part("Promise 25: all of the DAYS, by one of ten and by nine");
        ParishCoat x = new ParishCoat();
        int tens = 1;
        int nines = 1;
        for (int n = 1; n <= 6; n++) {
            tens *= 10;
            nines *= 9;
            Check.due("by 1, above", x.frosts(n, n, 1, 0), 1);
            Check.due("by 1, below", x.frosts(n, n, 1, 1), tens);
            Check.due("by 9, above", x.frosts(n, n, 9, 0), nines);
            Check.due("by 9, below", x.frosts(n, n, 9, 1), tens);
            Check.due("one at least by 1, above", x.frosts(n, 1, 1, 0), tens - nines);
            Check.due("one at least by 1, below", x.frosts(n, 1, 1, 1), tens);
        }
    }

    private static void frostsInLowestTerms() {
        Check.part("Terms: 'Parts are told in lowest terms', FROSTS");
        ParishCoat x = new ParishCoat();
        int[][] due = {{1, 1, 5, 1, 2}, {1, 1, 2, 1, 5}, {2, 1, 5, 3, 4}, {2, 2, 5, 1, 4}, {3, 2, 5, 1, 2},
            {6, 3, 5, 21, 32}, {2, 2, 4, 4, 25}, {6, 6, 2, 1, 15625}};
        for (int[] row : due) {
            String call = "frosts(" + row[0] + ", " + row[1] + ", " + row[2] + ", ";
            Check.due(call + "0)", x.frosts(row[0], row[1], row[2], 0), row[3]);
            Check.due(call + "1)", x.frosts(row[0], row[1], row[2], 1), row[4]);
        }
    }

    private static void countBounds() {
        Check.part("Promise 26: what 0 .. 9, 'OUTSIDE'");
        Still still = new Still(SeenBoundsTest::twoSeen);
        int[] due = {3, 1, 1, 8, 2, 2, 32, 2, 1, 7};
        for (int what = 0; what < 10; what++) {
            int w = what;
            still.due("count(" + what + ")", x -> x.count(w), due[what]);
        }
        for (int what : new int[] {-1, 10, -2, 11, 32, Integer.MIN_VALUE, Integer.MAX_VALUE}) {
            still.due("count(" + what + ")", x -> x.count(what), -3);
        }
    }

    private static void countAtFirst() {
        Check.part("Promise 1: 'No coat'");
        ParishCoat x = new ParishCoat();
        int[] due = {0, 0, 3, 5, 0, 0, 0, 0, 0, 0};
        for (int what = 0; what < 10; what++) {
            Check.due("count(" + what + ")", x.count(what), due[what]);
        }
        Check.due("fault()", x.fault(), 0);
        Check.due("coat()", x.coat(), -4);
        Check.due("erase()", x.erase(), 0);
        Check.due("undo()", x.undo(), -4);
        Check.due("back(0)", x.back(0), -4);
        Check.due("back(1)", x.back(1), -4);
        Check.due("forget()", x.forget(), 0);
        Check.due("warm(0)", x.warm(0), 0);
        Check.due("quotas()", x.quotas(), ALL_QUOTAS);
    }

    private static void countOfTheFull() {
        Check.part("Promise 26: each count at its most");
        ParishCoat x = Check.told("bone 9 1;bone 9 1;bone 9 1;bone 9 1;bone 9 1;bone 9 1;bone 9 1;quota 20");
        Check.tell(x, "cold 40;cold 40;cold 40;cold 40;cold 40;cold 40");
        Check.due("HEALTH of all", x.count(6), 140);
        for (int day = 0; day < 9; day++) {
            x.day(-1);
        }
        for (int i = 0; i < 7; i++) {
            x.seen(127, 0, 0);
        }
        for (int i = 0; i < 161; i++) {
            x.write('a');
        }
        int[] due = {7, 9, 20, 40, 6, 127, 0, 6, 8, 160};
        for (int what = 0; what < 10; what++) {
            Check.due("count(" + what + ")", x.count(what), due[what]);
        }
    }
}
