import java.util.List;

/** Counts what was asked and what was not as due; makes objects that were told a text. */
final class Check {
    static int passed = 0;
    static int failed = 0;
    private static String part = "";

    private Check() {
    }

    static void part(String name) {
        part = name;
    }

    static void due(String what, long got, long want) {
        if (got == want) {
            passed++;
            return;
        }
        failed++;
        System.out.println(part + ": " + what + " answered " + got + ", due is " + want);
    }

    static void write(ParishCoat x, String text) {
        for (int i = 0; i < text.length(); i++) {
            int before = x.count(9);
            due("write of '" + text.charAt(i) + "' in \"" + text + "\"", x.write(text.charAt(i)), before + 1);
        }
    }

    /** A new object that was told a text without a fault. */
    static ParishCoat told(String text) {
        ParishCoat x = new ParishCoat();
        tell(x, text);
        return x;
    }

    static void tell(ParishCoat x, String text) {
        write(x, text);
        due("fault() of \"" + text + "\"", x.fault(), ParishCoat.NONE);
        due("coat() of \"" + text + "\"", x.coat(), text.split(";").length);
    }

    /** The fault of a text behind what an object was told; the text is erased again. */
    static void fault(ParishCoat x, String text, int want) {
        x.erase();
        write(x, text);
        due("fault() of \"" + text + "\"", x.fault(), want);
        due("fault() again of \"" + text + "\"", x.fault(), want);
        due("erase() of \"" + text + "\"", x.erase(), text.length());
    }

    static void fault(String text, int want) {
        fault(new ParishCoat(), text, want);
    }

    /** Every answer by which two states can be told apart without changing them. */
    static String state(ParishCoat x) {
        StringBuilder all = new StringBuilder();
        for (int what = 0; what < 10; what++) {
            all.append(x.count(what)).append(' ');
        }
        for (int f = 0; f < x.count(0); f++) {
            for (int what = 0; what < 7; what++) {
                all.append(x.family(f, what)).append(' ');
            }
        }
        return all.append(x.quotas()).append(' ').append(x.fault()).toString();
    }

    /** A call is refused, and nothing changes by it. */
    static void refused(ParishCoat x, String what, java.util.function.IntSupplier call, int want) {
        String before = state(x);
        due(what, call.getAsInt(), want);
        due(what + " leaves all as it was", state(x).equals(before) ? 1 : 0, 1);
    }

    static final List<Integer> WRONG_NUMBERS =
        List.of(-1, -2, -5, 7, 8, 31, 32, 63, 64, Integer.MAX_VALUE, Integer.MIN_VALUE);
}
