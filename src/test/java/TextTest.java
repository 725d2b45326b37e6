/** Promises 1 to 5: a new object, write, erase, fault, coat. */
final class TextTest {
    private static final String SEVEN = "bone 1 1;bone 1 1;bone 1 1;bone 1 1;bone 1 1;bone 1 1;bone 1 1";

    private TextTest() {
    }

    static void run() {
        newObject();
        write();
        erase();
        faultsOfWords();
        faultsOfNumbers();
        faultsByWhatIsTold();
        tokens();
        lettersErased();
        mostClauses();
        coatDoes();
        coatStaysAndGoes();
        coatBeginsAnew();
    }

    private static void newObject() {
        Check.part("1 new");
        ParishCoat x = new ParishCoat();
        int[] counts = {0, 0, 3, 5, 0, 0, 0, 0, 0, 0};
        for (int what = 0; what < counts.length; what++) {
            Check.due("count(" + what + ")", x.count(what), counts[what]);
        }
        Check.due("family(0, 0)", x.family(0, 0), -2);
        Check.due("undo()", x.undo(), -4);
        Check.due("back(0)", x.back(0), -4);
        Check.due("back(1)", x.back(1), -4);
        Check.due("fault()", x.fault(), 0);
        ParishCoat y = Check.told("bone 1 1");
        Check.due("another object's families", x.count(0) * 10 + y.count(0), 1);
    }

    private static void write() {
        Check.part("2 write");
        ParishCoat x = new ParishCoat();
        Check.refused(x, "write(-1)", () -> x.write(-1), -3);
        Check.refused(x, "write(256)", () -> x.write(256), -3);
        for (int i = 1; i <= 160; i++) {
            Check.due("write " + i, x.write(i % 2 == 0 ? 0 : 255), i);
        }
        Check.refused(x, "write to the full", () -> x.write(97), -5);
        Check.refused(x, "write outside to the full", () -> x.write(256), -3);
        Check.due("count(9)", x.count(9), 160);
        Check.due("erase()", x.erase(), 160);
        Check.due("write after erase", x.write(97), 1);
    }

    private static void erase() {
        Check.part("3 erase");
        ParishCoat x = Check.told("bone 5 5;cold 9");
        Check.due("nothing", x.erase(), 0);
        Check.write(x, "mild");
        Check.due("four", x.erase(), 4);
        Check.due("none again", x.erase(), 0);
        Check.due("letters", x.count(9), 0);
        Check.due("fault of the empty", x.fault(), 0);
        Check.due("families stay", x.count(0), 1);
        Check.due("colds stay", x.count(4), 1);
    }

    private static void faultsOfWords() {
        Check.part("4 words");
        Check.fault("", 0);
        Check.fault("   ", 3);
        for (String word : new String[] {"thread", "Bone 1 1", "5", ";", "bon", "bones 1 1", "colds", "coatmild",
            "b one 1 1", "coa", "told 5", "wild", "mildz", "amild", "toat", "!", "\u00e9", "\t", "\0"}) {
            Check.fault(word, 0);
            Check.fault("mild; " + word, 6);
        }
        Check.fault("mild;", 5);
        Check.fault("mild; ", 6);
        Check.fault("mild;;mild", 5);
        Check.fault("mild mild", 5);
        Check.fault("mild 5", 5);
        Check.fault("coat 0", 5);
        Check.fault("coat.", 4);
        Check.fault("cold 5 mild", 7);
        Check.fault("cold 5 6", 7);
        Check.fault("cold mild", 5);
        Check.fault("cold ;", 5);
        Check.fault("cold", 4);
        Check.fault("quota  ", 7);
        Check.fault("bone 1", 6);
        Check.fault("bone 1;", 6);
        Check.fault("bone 1 1 1", 9);
        Check.fault("bone 1 -1", 7);
        Check.fault("mild", -1);
        Check.fault("coat", -1);
        Check.fault("brass 1 0;pearl 9 99;loose 5 5;bone 1 1", -1);
    }

    private static void faultsOfNumbers() {
        Check.part("4 numbers");
        for (String kind : new String[] {"bone", "brass", "pearl", "loose"}) {
            int at = kind.length() + 1;
            Check.fault(kind + " 0 5", at);
            Check.fault(kind + " 10 5", at);
            Check.fault(kind + " 001 5", at);
            Check.fault(kind + " 5 100", at + 2);
            Check.fault(kind + " 5 000", at + 2);
            Check.fault(kind + " 5 99", -1);
            Check.fault(kind + " 09 00", -1);
            Check.fault(kind + " 1 0", -1);
        }
        Check.fault("quota 0", 6);
        Check.fault("quota 1", -1);
        Check.fault("quota 20", -1);
        Check.fault("quota 21", 6);
        Check.fault("quota 020", 6);
        Check.fault("cold 0", -1);
        Check.fault("cold 40", -1);
        Check.fault("cold 41", 5);
        Check.fault("cold 99999999999999999999999999999999999", 5);
        Check.fault("cold 4294967297", 5);
    }

    private static void faultsByWhatIsTold() {
        Check.part("4 by what is told");
        Check.fault("favour 0 1", 7);
        Check.fault("bone 1 1;favour 1 0", 16);
        Check.fault("bone 1 1;favour 0 0", 18);
        Check.fault("bone 1 1;favour 0 1", 18);
        Check.fault("bone 1 1;bone 1 1;favour 0 1", -1);
        Check.fault("bone 1 1;bone 1 1;feud 1 0", -1);
        Check.fault("bone 1 1;bone 1 1;feud 1 1", 25);
        Check.fault("bone 1 1;bone 1 1;feud 2 2", 23);
        Check.fault("bone 1 1;bone 1 1;favour 0 1;coat;favour 0 1", 41);
        Check.fault(SEVEN, -1);
        Check.fault(SEVEN + ";pearl", SEVEN.length() + 1);
        Check.fault(SEVEN + "; loose 0 0", SEVEN.length() + 2);
        Check.fault(SEVEN + ";coat;bone 1 1", -1);
        Check.fault("cold 1;cold 2;cold 3;cold 4;cold 5;cold 6", -1);
        Check.fault("cold 1;cold 2;cold 3;cold 4;cold 5;cold 6;cold 7", 42);
        Check.fault("cold 1;cold 2;cold 3;cold 4;cold 5;cold 6;mild;cold 7", -1);
        Check.fault("cold 1;cold 2;cold 3;cold 4;cold 5;cold 6;coat;cold 7", -1);
        ParishCoat x = Check.told(SEVEN + ";cold 1;cold 2;cold 3;cold 4;cold 5");
        Check.fault(x, "bone 1 1", 0);
        Check.fault(x, "cold 1;cold 1", 7);
        Check.fault(x, "favour 6 5", -1);
        Check.fault(x, "favour 7 5", 7);
        Check.fault(x, "favour 5 7", 9);
        Check.fault(x, "coat;favour 6 5", 12);
        Check.due("a fault read does nothing", x.count(0) * 10 + x.count(4), 75);
    }

    private static void tokens() {
        Check.part("4 tokens");
        Check.fault("bone5 10", -1);
        Check.fault("bone 510", 5);
        Check.fault("  bone   5   10  ;  mild  ", -1);
        Check.fault("bone5 10mild", 8);
        Check.fault("bone 5a", 6);
        Check.fault("quota 1 2", 8);
        Check.fault("quota 1,2", 7);
        Check.fault("MILD", 0);
        Check.fault("mild\n", 4);
    }

    private static void lettersErased() {
        Check.part("4 letters erased");
        ParishCoat x = new ParishCoat();
        Check.fault(x, "cold 40;mild", -1);
        Check.fault(x, "cold ", 5);
        Check.fault(x, "cold 4", -1);
        Check.fault(x, "cold 40;mil", 8);
        Check.fault(x, "cold 40;", 8);
        Check.fault(" ".repeat(160), 160);
        Check.fault(" ".repeat(156) + "cold", 160);
        Check.fault(" ".repeat(156) + "mild", -1);
        Check.fault(" ".repeat(155) + "mild;", 160);
        Check.fault(" ".repeat(155) + "cold4", -1);
    }

    private static void mostClauses() {
        Check.part("4 clauses");
        String fourteen = "mild;mild;mild;mild;mild;mild;mild;mild;mild;mild;mild;mild;mild;mild";
        Check.fault(fourteen, -1);
        Check.fault(fourteen + " ", -1);
        Check.fault(fourteen + ";", 69);
        Check.fault(fourteen + ";mild", 69);
        Check.fault(fourteen + " mild", 70);
        Check.due("fourteen are done", Check.told(fourteen).count(9), 0);
    }

    private static void coatDoes() {
        Check.part("5 coat");
        ParishCoat x = new ParishCoat();
        Check.refused(x, "coat() of nothing", x::coat, -4);
        Check.write(x, "bone 5 10;quota");
        Check.refused(x, "coat() of a fault", x::coat, -4);
        Check.due("its letters stay", x.count(9), 15);
        Check.write(x, " 7;cold 40;cold 0;brass 9 0;favour 1 0");
        Check.due("coat()", x.coat(), 6);
        int[] counts = {2, 0, 7, 40, 2, 0, 40, 0, 0, 0};
        for (int what = 0; what < counts.length; what++) {
            Check.due("count(" + what + ")", x.count(what), counts[what]);
        }
        Check.due("favours", x.family(1, 4), 1);
        Check.due("not the other way", x.family(0, 4), 0);
    }

    private static void coatStaysAndGoes() {
        Check.part("5 coat, earlier texts");
        ParishCoat x = Check.told("bone 5 10;pearl 6 20;favour 0 1;quota 9;cold 3");
        Check.tell(x, "loose 1 2;favour 2 1;cold 4");
        Check.due("families", x.count(0), 3);
        Check.due("quota", x.count(2), 9);
        Check.due("colds", x.count(4), 2);
        Check.due("done up", x.family(1, 5), 7);
        Check.tell(x, "feud 0 1;feud 1 0;mild");
        Check.due("done up after a feud", x.family(1, 5), 6);
        Check.due("no colds", x.count(4), 0);
        Check.due("usual cold", x.count(3), 5);
        Check.tell(x, "coat");
        Check.due("no families", x.count(0), 0);
        Check.due("first quota", x.count(2), 3);
        Check.tell(x, "cold 9;bone 2 2;coat;brass 3 3;brass 4 4");
        Check.due("families behind coat", x.count(0), 2);
        Check.due("colds behind coat", x.count(4), 0);
        Check.due("favours are gone", x.family(0, 4) + x.family(1, 4), 0);
        Check.due("kind", x.family(0, 0), 1);
    }

    private static void coatBeginsAnew() {
        Check.part("5 coat begins anew");
        ParishCoat x = Check.told("bone 5 10;pearl 6 20;favour 0 1;cold 40");
        x.favour(0, 1, 0);
        x.favour(1, 0, 1);
        x.seen(1, 0, 1);
        x.keep(0);
        x.keep(1);
        for (int i = 0; i < 3; i++) {
            x.day(-1);
        }
        Check.due("all are frozen", x.count(5), 3);
        Check.tell(x, "cold 1");
        int[] counts = {2, 0, 3, 40, 2, 0, 40, 0, 0, 0};
        for (int what = 0; what < counts.length; what++) {
            Check.due("count(" + what + ")", x.count(what), counts[what]);
        }
        Check.due("as told", x.family(0, 4), 2);
        Check.due("as told too", x.family(1, 4), 0);
        Check.due("health", x.family(1, 3), 20);
        Check.due("undo()", x.undo(), -4);
        Check.due("back(0)", x.back(0), -4);
        Check.due("back(1)", x.back(1), -4);
        Check.due("quotas()", x.quotas(), 2097150);
    }
}
