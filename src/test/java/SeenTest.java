/** Promises 22 to 26: seen, forget, quotas, frosts, count. */
final class SeenTest {
    private static final int ALL_QUOTAS = 2097150;

    private SeenTest() {
    }

    static void run() {
        seen();
        forget();
        quotas();
        quotasOfFrozen();
        frosts();
        frostsRefused();
        count();
    }

    private static void seen() {
        Check.part("22 seen");
        ParishCoat x = Check.told("bone 9 1;bone 9 1");
        for (int set : new int[] {4, 7, -1, Integer.MIN_VALUE, Integer.MAX_VALUE}) {
            Check.refused(x, "seen(" + set + ", 0, 0)", () -> x.seen(set, 0, 0), -2);
            Check.refused(x, "seen(" + set + ", 2, 2)", () -> x.seen(set, 2, 2), -2);
        }
        for (int number : new int[] {-1, 2, Integer.MAX_VALUE, Integer.MIN_VALUE}) {
            Check.refused(x, "night " + number, () -> x.seen(3, number, 0), -3);
            Check.refused(x, "carried " + number, () -> x.seen(3, 0, number), -3);
        }
        for (int i = 1; i <= 6; i++) {
            Check.due("seen " + i, x.seen(i % 4, i % 2, i % 2), i);
            Check.due("count(7)", x.count(7), i);
        }
        Check.refused(x, "a seventh", () -> x.seen(1, 0, 0), -5);
        Check.refused(x, "a seventh outside", () -> x.seen(1, 2, 0), -3);
        Check.refused(x, "a seventh unknown", () -> x.seen(4, 2, 0), -2);
        Check.due("nothing can be undone", x.count(8), 0);
    }

    private static void forget() {
        Check.part("23 forget");
        ParishCoat x = Check.told("bone 9 1;bone 9 1");
        Check.due("nothing", x.forget(), 0);
        x.seen(3, 0, 1);
        x.seen(1, 0, 0);
        Check.due("quotas()", x.quotas(), 4);
        Check.due("two", x.forget(), 2);
        Check.due("count(7)", x.count(7), 0);
        Check.due("quotas()", x.quotas(), ALL_QUOTAS);
        Check.due("seen again", x.seen(1, 0, 1), 1);
        Check.due("quotas()", x.quotas(), 2);
    }

    private static void quotas() {
        Check.part("24 quotas");
        ParishCoat x = Check.told("pearl 9 1;pearl 9 1;brass 9 1;loose 9 1;pearl 1 1;pearl 1 1;pearl 1 1");
        Check.due("nothing seen", x.quotas(), ALL_QUOTAS);
        x.seen(127, 0, 1);
        Check.due("12 by day", x.quotas(), (1 << 13) - 2);
        x.seen(12, 1, 0);
        Check.due("not 2 by night", x.quotas(), (1 << 13) - 8);
        x.seen(4, 1, 1);
        Check.due("2 by night as well: none", x.quotas(), 0);
        x.forget();
        x.seen(8, 1, 0);
        Check.due("0 is below any", x.quotas(), ALL_QUOTAS);
        x.seen(8, 0, 0);
        Check.due("1 is below all but the first", x.quotas(), ALL_QUOTAS - 2);
        x.day(-1);
        Check.due("whatever day it is", x.quotas(), ALL_QUOTAS - 2);
        Check.due("the quota stays", x.count(2), 3);
        x.seen(0, 0, 1);
        Check.due("nobody carries nothing", x.quotas(), 0);
    }

    private static void quotasOfFrozen() {
        Check.part("24 quotas, frozen");
        ParishCoat x = Check.told("pearl 9 1;pearl 9 1;quota 1;cold 30");
        x.day(0);
        Check.due("frozen", x.count(5), 1);
        Check.due("a frozen one is no unknown", x.seen(3, 0, 1), 1);
        Check.due("quotas()", x.quotas(), 30);
    }

    private static void frosts() {
        Check.part("25 frosts");
        ParishCoat x = new ParishCoat();
        for (int n = 0; n <= 6; n++) {
            for (int q = 0; q <= 10; q++) {
                for (int k = 0; k <= 6; k++) {
                    frost(x, n, k, q);
                }
            }
        }
        Check.due("1 of 1 by 3, above", x.frosts(1, 1, 3, 0), 3);
        Check.due("1 of 1 by 3, below", x.frosts(1, 1, 3, 1), 10);
        Check.due("1 of 2 by 2, above", x.frosts(2, 1, 2, 0), 9);
        Check.due("1 of 2 by 2, below", x.frosts(2, 1, 2, 1), 25);
        Check.due("6 of 6 by 1, below", x.frosts(6, 6, 1, 1), 1000000);
        Check.due("2 of 1, above", x.frosts(1, 2, 5, 0), 0);
        Check.due("2 of 1, below", x.frosts(1, 2, 5, 1), 1);
    }

    /** By going through all 10^n ways a day's tenth at a time would be long: by all 2^n rows of days. */
    private static void frost(ParishCoat x, int n, int k, int q) {
        long above = 0;
        long below = 1;
        for (int i = 0; i < n; i++) {
            below *= 10;
        }
        for (int row = 0; row < 1 << n; row++) {
            long ways = 1;
            for (int i = 0; i < n; i++) {
                ways *= (row >> i & 1) == 1 ? q : 10 - q;
            }
            above += Integer.bitCount(row) >= k ? ways : 0;
        }
        long common = java.math.BigInteger.valueOf(above).gcd(java.math.BigInteger.valueOf(below)).longValue();
        String call = "frosts(" + n + ", " + k + ", " + q + ", ";
        Check.due(call + "0)", x.frosts(n, k, q, 0), above / common);
        Check.due(call + "1)", x.frosts(n, k, q, 1), below / common);
    }

    private static void frostsRefused() {
        Check.part("25 refusals");
        ParishCoat x = new ParishCoat();
        for (int number : new int[] {-1, 11, Integer.MAX_VALUE, Integer.MIN_VALUE}) {
            Check.refused(x, "n " + number, () -> x.frosts(number, 1, 5, 0), -3);
            Check.refused(x, "k " + number, () -> x.frosts(1, number, 5, 0), -3);
            Check.refused(x, "q " + number, () -> x.frosts(1, 1, number, 0), -3);
            Check.refused(x, "part " + number, () -> x.frosts(1, 1, 5, number), -3);
        }
        Check.refused(x, "n 7", () -> x.frosts(7, 1, 5, 0), -3);
        Check.refused(x, "k 7", () -> x.frosts(1, 7, 5, 0), -3);
        Check.refused(x, "part 2", () -> x.frosts(1, 1, 5, 2), -3);
    }

    private static void count() {
        Check.part("26 count");
        ParishCoat x = Check.told("bone 9 1;pearl 9 1;bone 9 1;quota 2;cold 30;cold 7;cold 0");
        x.day(1);
        x.favour(0, 2, 1);
        x.seen(7, 1, 1);
        x.write(';');
        x.write(0);
        x.write('a');
        int[] due = {3, 1, 2, 7, 3, 2, 28, 1, 2, 3};
        for (int what = 0; what < due.length; what++) {
            Check.due("count(" + what + ")", x.count(what), due[what]);
        }
        for (int what : new int[] {-1, 10, 11, Integer.MAX_VALUE, Integer.MIN_VALUE}) {
            Check.refused(x, "count(" + what + ")", () -> x.count(what), -3);
        }
    }
}
