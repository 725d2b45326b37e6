/** The bounds of texts ('Terms' of families, quota, colds and THE TEXT; promises 1 to 5), a test a sentence. */
final class TextBoundsTest {
    private static final String[] KINDS = {"bone", "brass", "pearl", "loose"};
    private static final String SIX_COLDS = "cold 1;cold 2;cold 3;cold 4;cold 5;cold 6";

    private TextBoundsTest() {
    }

    static void run() {
        familiesNoneAtFirst();
        familiesSevenAtMost();
        familiesAnEighth();
        familiesFromFullBackAgain();
        familiesAsTheyCome();
        kinds();
        warmth();
        price();
        favoursNoneAtFirst();
        quota();
        quotaAtFirst();
        coldOfOne();
        coldsSixAtMost();
        coldsASeventh();
        coldsFromFullBackAgain();
        coldsAgainFromTheFirst();
        coldsNone();
        lettersAtMost();
        lettersFromFullBackAgain();
        clausesAtMost();
        clausesNoneIsTooFew();
        clausesCutShort();
        wordsAsWritten();
        wordsOneLetterOff();
        coatAllAsAtFirst();
        favourUnlike();
        favourKnownOnes();
        feudNotAnyMore();
        mildNoColds();
        lettersSmall();
        digitsOfANumber();
        blanks();
        everyLetterBehind();
        faultIsTheFirst();
        faultAtTheEnd();
        faultByEarlierTexts();
        clausesInTheirOrder();
        earlierTextsStay();
        behindThem();
        behindThemFavours();
        writeLetters();
        writeRefused();
        eraseEmptyAndFull();
        faultChangesNothing();
        coatHowMany();
        coatNot();
    }

    private static String buttons(int many) {
        return "bone 1 1;".repeat(many - 1) + "bone 1 1";
    }

    private static void familiesNoneAtFirst() {
        Check.part("Terms: 'FAMILIES .. (none at first)'");
        ParishCoat x = new ParishCoat();
        Check.due("count(0)", x.count(0), 0);
        for (int what = 0; what < 7; what++) {
            Check.due("family(0, " + what + ")", x.family(0, what), -2);
        }
        Check.due("the empty set", x.warm(0), 0);
        Check.due("a set of family 0", x.warm(1), -2);
        Check.due("HEALTH of all", x.count(6), 0);
        Check.due("nobody is FROZEN", x.count(5), 0);
        Check.due("a day of nobody", x.day(-1), 0);
    }

    private static void familiesSevenAtMost() {
        Check.part("Terms: 'FAMILIES are 0, 1 .. 7 at most'");
        for (int many = 1; many <= 7; many++) {
            ParishCoat x = Check.told(buttons(many));
            Check.due("count(0)", x.count(0), many);
            Check.due("the last of " + many, x.family(many - 1, 0), 0);
            Check.due("one more than " + many, x.family(many, 0), -2);
            Check.due("one less than the first", x.family(-1, 0), -2);
            Check.due("the set of all " + many, x.warm((1 << many) - 1), many == 1 ? 0 : many);
            Check.due("a set beyond " + many, x.warm(1 << many), -2);
            Check.due("HEALTH of all", x.count(6), 20 * many);
        }
    }

    private static void familiesAnEighth() {
        Check.part("Terms: 'an eighth cannot stand there (at its word)'");
        String seven = buttons(7);
        for (String kind : KINDS) {
            Check.fault(seven + ";" + kind + " 1 1", seven.length() + 1);
            Check.fault(seven + ";" + kind, seven.length() + 1);
            Check.fault(seven + "; " + kind + " 0 100", seven.length() + 2);
            Check.fault(buttons(6) + ";" + kind + " 1 1", -1);
            ParishCoat x = Check.told(seven);
            Check.fault(x, kind + " 1 1", 0);
            Check.fault(x, "mild;" + kind + " 1 1", 5);
            Check.fault(x, "mild;" + kind + " 1 1;coat", 5);
        }
        Still still = new Still(() -> {
            ParishCoat x = Check.told(seven);
            Check.write(x, "quota 9;pearl 9 9");
            return x;
        });
        still.due("coat() of an eighth", ParishCoat::coat, -4);
    }

    private static void familiesFromFullBackAgain() {
        Check.part("Terms: seven families, and coat makes room");
        ParishCoat x = Check.told(buttons(7));
        Check.tell(x, "coat;pearl 9 99");
        Check.due("count(0)", x.count(0), 1);
        Check.tell(x, buttons(6));
        Check.due("count(0)", x.count(0), 7);
        Check.due("the first", x.family(0, 0), 2);
        Check.fault(x, "bone 1 1", 0);
        ParishCoat y = Check.told(buttons(3));
        Check.tell(y, "coat;" + buttons(7));
        Check.due("seven behind coat", y.count(0), 7);
        Check.fault(y, "coat;" + buttons(7) + ";bone 1 1", 5 + buttons(7).length() + 1);
    }

    private static void familiesAsTheyCome() {
        Check.part("Terms: 'FAMILIES are 0, 1 .. as they come'");
        ParishCoat x = Check.told("bone 1 10;brass 2 11");
        Check.tell(x, "pearl 3 12");
        Check.tell(x, "loose 4 13;bone 5 14;brass 6 15;pearl 7 16");
        for (int f = 0; f < 7; f++) {
            Check.due("KIND of " + f, x.family(f, 0), f % 4);
            Check.due("WARMTH of " + f, x.family(f, 1), f + 1);
            Check.due("PRICE of " + f, x.family(f, 2), f + 10);
        }
    }

    private static void kinds() {
        Check.part("Terms: 'of a KIND, 0 BONE, 1 BRASS, 2 PEARL, 3 LOOSE'");
        for (int kind = 0; kind < 4; kind++) {
            ParishCoat x = Check.told(KINDS[kind] + " 1 0");
            Check.due(KINDS[kind], x.family(0, 0), kind);
        }
    }

    private static void warmth() {
        Check.part("Terms: 'of a WARMTH (1 .. 9)'");
        for (String kind : KINDS) {
            int at = kind.length() + 1;
            for (int warmth = 0; warmth <= 99; warmth++) {
                Check.fault(kind + " " + warmth + " 0", warmth >= 1 && warmth <= 9 ? -1 : at);
            }
            Check.fault(kind + " 00 0", at);
            Check.fault(kind + " 01 0", -1);
            Check.fault(kind + " 09 0", -1);
            Check.fault(kind + " 001 0", at);
            Check.fault(kind + " 009 0", at);
            for (int warmth = 1; warmth <= 9; warmth++) {
                Check.due("WARMTH", Check.told(kind + " " + warmth + " 0").family(0, 1), warmth);
                Check.due("WARMTH of two digits", Check.told(kind + " 0" + warmth + " 0").family(0, 1), warmth);
            }
        }
    }

    private static void price() {
        Check.part("Terms: 'of a PRICE (0 .. 99)'");
        for (String kind : KINDS) {
            int at = kind.length() + 3;
            for (int price : new int[] {0, 1, 9, 10, 98, 99}) {
                Check.fault(kind + " 1 " + price, -1);
                Check.due("PRICE", Check.told(kind + " 1 " + price).family(0, 2), price);
            }
            Check.fault(kind + " 1 00", -1);
            Check.fault(kind + " 1 100", at);
            Check.fault(kind + " 1 000", at);
            Check.fault(kind + " 1 099", at);
            Check.fault(kind + " 1 -1", at);
        }
    }

    private static void favoursNoneAtFirst() {
        Check.part("Terms: 'Some FAVOUR others (none at first)'");
        ParishCoat x = Check.told(buttons(7));
        for (int f = 0; f < 7; f++) {
            Check.due("whom " + f + " favours", x.family(f, 4), 0);
            Check.due("who is done up for " + f, x.family(f, 5), 1 << f);
        }
        Check.tell(x, "coat;" + buttons(2));
        Check.tell(x, "favour 0 1;coat;" + buttons(2));
        Check.due("none behind coat", x.family(0, 4) + x.family(1, 4), 0);
        Check.tell(x, "favour 0 1");
        Check.tell(x, "coat;bone 1 1");
        Check.due("nor of one who is not there any more", x.family(0, 4), 0);
        Check.tell(x, "bone 1 1");
        Check.due("nor of one who comes in his place", x.family(0, 4), 0);
    }

    private static void quota() {
        Check.part("Terms: 'QUOTA is 1 .. 20'");
        for (int quota = 0; quota <= 99; quota++) {
            Check.fault("quota " + quota, quota >= 1 && quota <= 20 ? -1 : 6);
        }
        for (int quota = 1; quota <= 20; quota++) {
            Check.due("count(2)", Check.told("quota " + quota).count(2), quota);
        }
        Check.fault("quota 00", 6);
        Check.fault("quota 01", -1);
        Check.fault("quota 001", 6);
        Check.fault("quota 020", 6);
        Check.fault("quota 100", 6);
        Check.due("of two digits", Check.told("quota 01").count(2), 1);
    }

    private static void quotaAtFirst() {
        Check.part("Terms: 'QUOTA .. (3 at first)'");
        Check.due("of a new object", new ParishCoat().count(2), 3);
        ParishCoat x = Check.told("pearl 1 1;bone 1 1;favour 1 0");
        Check.due("2 and 1 are 3", x.carried(0), 1);
        Check.due("1 is below 3", x.carried(1), 0);
        Check.tell(x, "quota 20");
        Check.tell(x, "coat");
        Check.due("behind coat", x.count(2), 3);
    }

    private static void coldOfOne() {
        Check.part("Terms: 'COLDS .. (0 .. 40 each)'");
        for (int cold = 0; cold <= 99; cold++) {
            Check.fault("cold " + cold, cold <= 40 ? -1 : 5);
        }
        for (int cold = 0; cold <= 40; cold++) {
            Check.due("count(3)", Check.told("cold " + cold).count(3), cold);
        }
        Check.fault("cold 00", -1);
        Check.fault("cold 000", 5);
        Check.fault("cold 040", 5);
        Check.fault("cold 100", 5);
        Check.due("of two digits", Check.told("cold 04").count(3), 4);
    }

    private static void coldsSixAtMost() {
        Check.part("Terms: 'COLDS are one behind another, 6 at most'");
        ParishCoat x = new ParishCoat();
        Check.due("none at first", x.count(4), 0);
        for (int many = 1; many <= 6; many++) {
            Check.tell(x, "cold " + many);
            Check.due("count(4)", x.count(4), many);
            Check.due("that of DAY 0 is the first", x.count(3), 1);
        }
        Check.due("six in one text", Check.told(SIX_COLDS).count(4), 6);
    }

    private static void coldsASeventh() {
        Check.part("Terms: 'a seventh cannot stand there'");
        Check.fault(SIX_COLDS + ";cold 7", SIX_COLDS.length() + 1);
        Check.fault(SIX_COLDS + ";cold", SIX_COLDS.length() + 1);
        Check.fault(SIX_COLDS + "; cold 41", SIX_COLDS.length() + 2);
        ParishCoat x = Check.told("cold 1;cold 2;cold 3");
        Check.fault(x, "cold 1;cold 2;cold 3", -1);
        Check.fault(x, "cold 1;cold 2;cold 3;cold 4", 21);
        Still still = new Still(() -> {
            ParishCoat y = Check.told(SIX_COLDS);
            Check.write(y, "bone 1 1;cold 0");
            return y;
        });
        still.due("coat() of a seventh", ParishCoat::coat, -4);
        still.due("fault() of a seventh", ParishCoat::fault, 9);
    }

    private static void coldsFromFullBackAgain() {
        Check.part("Terms: six colds, and mild or coat make room");
        for (String word : new String[] {"mild", "coat"}) {
            ParishCoat x = Check.told(SIX_COLDS);
            Check.tell(x, word + ";cold 9");
            Check.due("count(4)", x.count(4), 1);
            Check.due("count(3)", x.count(3), 9);
            Check.tell(x, "cold 1;cold 2;cold 3;cold 4;cold 5");
            Check.fault(x, "cold 6", 0);
            Check.tell(x, word + ";" + SIX_COLDS);
            Check.due("six again", x.count(4), 6);
            Check.fault(x, word + ";" + SIX_COLDS + ";cold 6", 5 + SIX_COLDS.length() + 1);
        }
    }

    private static void coldsAgainFromTheFirst() {
        Check.part("Terms: 'that of DAY 0, 1, .., then again from the first on'");
        int[] colds = {0, 4, 3, 2, 1, 4};
        StringBuilder text = new StringBuilder("bone 9 1");
        for (int many = 1; many <= 6; many++) {
            text.append(";cold ").append(colds[many - 1]);
            ParishCoat x = Check.told(text.toString());
            for (int day = 0; day < 3 * many + 2; day++) {
                Check.due("cold of " + many + " on day " + day, x.count(3), colds[day % many]);
                Check.due("nobody freezes", x.day(-1), 0);
            }
            Check.due("nobody lost health", x.count(6), 20);
        }
    }

    private static void coldsNone() {
        Check.part("Terms: '(5 always, if there are none)'");
        ParishCoat x = Check.told("bone 1 1");
        for (int day = 0; day < 19; day++) {
            Check.due("cold", x.count(3), 5);
            Check.due("COLDS", x.count(4), 0);
            Check.due("day " + day, x.day(-1), 0);
        }
        Check.due("5 by 5 is 1 a day", x.count(6), 1);
        Check.due("the twentieth", x.day(-1), 1);
        Check.due("cold", x.count(3), 5);
        Check.due("a COLD of 0 is one", Check.told("cold 0").count(3), 0);
    }

    private static void lettersAtMost() {
        Check.part("Terms: 'a row of letters, 160 at most'");
        ParishCoat x = new ParishCoat();
        for (int i = 1; i <= 160; i++) {
            Check.due("write " + i, x.write('a'), i);
            Check.due("count(9)", x.count(9), i);
        }
        Check.due("a letter more", x.write('a'), -5);
        Check.due("and again", x.write(' '), -5);
        Check.due("count(9)", x.count(9), 160);
        Check.due("its fault", x.fault(), 0);
        String whole = " ".repeat(150) + "quota 20  ";
        Check.due("160 letters are read", Check.told(whole).count(2), 20);
        ParishCoat y = new ParishCoat();
        Check.write(y, " ".repeat(153) + "quota 2");
        Check.due("what does not fit", y.write('0'), -5);
        Check.due("is not read", y.coat() * 100 + y.count(2), 102);
    }

    private static void lettersFromFullBackAgain() {
        Check.part("Terms: 160 letters, and erase or coat make room");
        ParishCoat x = new ParishCoat();
        Check.write(x, " ".repeat(156) + "mild");
        Check.due("full", x.write('x'), -5);
        Check.due("coat()", x.coat(), 1);
        Check.due("a letter", x.write('x'), 1);
        Check.write(x, "x".repeat(159));
        Check.due("full", x.write('x'), -5);
        Check.due("erase()", x.erase(), 160);
        Check.write(x, "y".repeat(160));
        Check.due("full", x.write('x'), -5);
    }

    private static void clausesAtMost() {
        Check.part("Terms: 'CLAUSES with ; between, 14 at most'");
        String text = "quota 1";
        for (int many = 1; many <= 14; many++) {
            Check.fault(text, -1);
            ParishCoat x = Check.told(text);
            Check.due("the last is done", x.count(2), many);
            text = text + ";quota " + (many + 1);
        }
        int fourteen = text.lastIndexOf(';');
        Check.fault(text, fourteen);
        Check.fault(text.substring(0, fourteen + 1), fourteen);
        Check.fault(text.substring(0, fourteen) + " ; quota 1", fourteen + 1);
        Check.fault(text.substring(0, fourteen) + " quota 1", fourteen + 1);
        String fifteen = text;
        Still still = new Still(() -> {
            ParishCoat x = Check.told("bone 1 1;quota 20");
            Check.write(x, fifteen);
            return x;
        });
        still.due("coat() of fifteen", ParishCoat::coat, -4);
    }

    private static void clausesNoneIsTooFew() {
        Check.part("Terms: a text of no clauses comes too soon to its end");
        Check.fault("", 0);
        for (int blanks : new int[] {1, 2, 159, 160}) {
            Check.fault(" ".repeat(blanks), blanks);
        }
        Check.fault(";", 0);
        Check.fault(" ;", 1);
        Check.fault(";mild", 0);
        Check.fault("mild;;mild", 5);
        Check.fault("mild; ;mild", 6);
        Check.fault("mild;", 5);
        Check.fault("mild;  ", 7);
    }

    private static void clausesCutShort() {
        Check.part("Terms: 'or at the end, if it comes too soon'");
        String two = "bone 1 1;bone 1 1;";
        String[] clauses = {"bone 5 10", "brass 5 10", "pearl 5 10", "loose 5 10", "favour 0 1", "feud 1 0",
            "quota 20", "cold 40", "mild", "coat"};
        for (String clause : clauses) {
            int word = clause.indexOf(' ') < 0 ? clause.length() : clause.indexOf(' ');
            int numbers = clause.lastIndexOf(' ');
            for (int cut = 0; cut <= clause.length(); cut++) {
                int want = -1;
                if (cut < word) {
                    want = 0;
                } else if (cut <= numbers + 1 && numbers > 0) {
                    want = cut;
                }
                Check.fault(two + clause.substring(0, cut), want < 0 ? -1 : two.length() + want);
                if (want > 0) {
                    Check.fault(two + clause.substring(0, cut) + ";mild", two.length() + want);
                    Check.fault(two + clause.substring(0, cut) + " mild", two.length() + want + 1);
                    Check.fault(two + clause.substring(0, cut) + "  ", two.length() + want + 2);
                }
            }
        }
    }

    private static void wordsAsWritten() {
        Check.part("Terms: 'each is one of .. (As written here, without points ..)'");
        String[] clauses = {"coat", "bone 1 1", "brass 1 1", "pearl 1 1", "loose 1 1", "favour 0 1", "feud 0 1",
            "quota 1", "cold 1", "mild"};
        for (String clause : clauses) {
            Check.fault(Check.told(buttons(2)), clause, -1);
            Check.fault(Check.told(buttons(2)), clause + ".", clause.length());
            Check.fault(Check.told(buttons(2)), clause + " 1", clause.length() + 1);
            Check.fault(Check.told(buttons(2)), clause + " x", clause.length() + 1);
            Check.fault(Check.told(buttons(2)), "x" + clause, 0);
            Check.fault(Check.told(buttons(2)), Character.toUpperCase(clause.charAt(0)) + clause.substring(1), 0);
            String[] parts = clause.split(" ");
            Check.fault(Check.told(buttons(2)), clause.replace(parts[0], parts[0] + "s"), 0);
            Check.fault(Check.told(buttons(2)), clause.substring(1), 0);
        }
    }

    private static void wordsOneLetterOff() {
        Check.part("Terms: words 'as written here', one letter off");
        String[] clauses = {"coat", "bone 1 1", "brass 1 1", "pearl 1 1", "loose 1 1", "favour 0 1", "feud 0 1",
            "quota 1", "cold 1", "mild"};
        for (String clause : clauses) {
            ParishCoat x = Check.told(buttons(2));
            int word = clause.split(" ")[0].length();
            for (int i = 0; i < word; i++) {
                for (char other : new char[] {'x', 'Q', '1', '!'}) {
                    Check.fault(x, clause.substring(0, i) + other + clause.substring(i + 1), 0);
                }
                Check.fault(x, clause.substring(0, i) + clause.substring(i + 1), 0);
                Check.fault(x, clause.substring(0, i) + " " + clause.substring(i), i == 0 ? -1 : 0);
            }
        }
    }

    private static void coatAllAsAtFirst() {
        Check.part("Terms: 'coat: all as at first'");
        ParishCoat x = Check.told("bone 9 9;brass 9 9;favour 0 1;quota 20;cold 40;cold 30");
        Check.tell(x, "coat");
        int[] counts = {0, 0, 3, 5, 0, 0, 0, 0, 0, 0};
        for (int what = 0; what < counts.length; what++) {
            Check.due("count(" + what + ")", x.count(what), counts[what]);
        }
        Check.fault(x, "favour 0 1", 7);
        Check.tell(x, "coat;coat");
        Check.tell(x, "bone 1 1;bone 1 1;quota 7;cold 9;favour 0 1;coat");
        for (int what = 0; what < counts.length; what++) {
            Check.due("at the end, count(" + what + ")", x.count(what), counts[what]);
        }
    }

    private static void favourUnlike() {
        Check.part("Terms: 'A, B unlike (else a FAULT at B)'");
        for (String word : new String[] {"favour", "feud"}) {
            int at = word.length() + 3;
            for (int f = 0; f < 7; f++) {
                ParishCoat x = Check.told(buttons(7));
                Check.fault(x, word + " " + f + " " + f, at);
                Check.fault(x, word + " " + f + " 0" + f, at);
                Check.fault(x, word + " 0" + f + " " + f, at + 1);
                Check.fault(x, word + " " + f + " " + (f + 1) % 7, -1);
            }
        }
        Still still = new Still(() -> {
            ParishCoat x = Check.told("bone 1 1;bone 1 1;favour 0 1");
            Check.write(x, "feud 0 1;favour 1 1");
            return x;
        });
        still.due("coat() of one and himself", ParishCoat::coat, -4);
    }

    private static void favourKnownOnes() {
        Check.part("Terms: favour, feud of families that there are");
        for (String word : new String[] {"favour", "feud"}) {
            int a = word.length() + 1;
            for (int many = 0; many <= 7; many++) {
                ParishCoat x = many == 0 ? new ParishCoat() : Check.told(buttons(many));
                Check.fault(x, word + " " + many + " 0", a);
                Check.fault(x, word + " 99 99", a);
                Check.fault(x, word + " " + many + " " + many, a);
                if (many > 0) {
                    Check.fault(x, word + " " + (many - 1) + " " + many, a + 2);
                    Check.fault(x, word + " " + (many - 1) + " 99", a + 2);
                    Check.fault(x, word + " " + (many - 1) + " 000", a + 2);
                    Check.fault(x, word + " 000 " + (many - 1), a);
                }
                if (many > 1) {
                    Check.fault(x, word + " 0 " + (many - 1), -1);
                    Check.fault(x, word + " " + (many - 1) + " 0", -1);
                    Check.fault(x, word + " 0" + (many - 1) + " 00", -1);
                }
            }
        }
        Check.fault("favour 0 1;bone 1 1;bone 1 1", 7);
        Check.fault("bone 1 1;favour 0 1;bone 1 1", 18);
        Check.fault("bone 1 1;bone 1 1;favour 0 1;bone 1 1;favour 2 0", -1);
    }

    private static void feudNotAnyMore() {
        Check.part("Terms: 'favour: A FAVOURS B, feud: not any more'");
        for (int a = 0; a < 7; a++) {
            for (int b = 0; b < 7; b++) {
                if (a == b) {
                    continue;
                }
                ParishCoat x = Check.told(buttons(7) + ";favour " + a + " " + b);
                for (int f = 0; f < 7; f++) {
                    Check.due("whom " + f + " favours", x.family(f, 4), f == a ? 1 << b : 0);
                }
                Check.tell(x, "favour " + a + " " + b);
                Check.due("twice is once", x.family(a, 4), 1 << b);
                Check.tell(x, "feud " + b + " " + a);
                Check.due("the other way is another", x.family(a, 4), 1 << b);
                Check.tell(x, "feud " + a + " " + b);
                Check.due("not any more", x.family(a, 4), 0);
                Check.tell(x, "feud " + a + " " + b);
                Check.due("nor again", x.family(a, 4), 0);
            }
        }
    }

    private static void mildNoColds() {
        Check.part("Terms: 'mild: no COLDS'");
        ParishCoat x = Check.told(SIX_COLDS + ";bone 1 1;quota 9;mild");
        Check.due("count(4)", x.count(4), 0);
        Check.due("count(3)", x.count(3), 5);
        Check.due("families stay", x.count(0), 1);
        Check.due("quota stays", x.count(2), 9);
        Check.tell(x, "mild");
        Check.due("of none", x.count(4), 0);
    }

    private static void lettersSmall() {
        Check.part("Terms: TOKENS, 'a row of small letters, a row of digits, any other letter'");
        Check.fault("milda", 0);
        Check.fault("mildz", 0);
        Check.fault("mild`", 4);
        Check.fault("mild{", 4);
        Check.fault("mildA", 4);
        Check.fault("mildZ", 4);
        Check.fault("mild0", 4);
        Check.fault("amild", 0);
        Check.fault("zmild", 0);
        Check.fault("cold 4/", 6);
        Check.fault("cold 4:", 6);
        Check.fault("cold 40", -1);
        Check.fault("cold 49", 5);
        Check.fault("cold /4", 5);
        Check.fault("cold :4", 5);
        Check.fault("mild..", 4);
        Check.fault("mild ..", 5);
        Check.fault("cold +4", 5);
        Check.fault("cold 4.0", 6);
    }

    private static void digitsOfANumber() {
        Check.part("Terms: 'numbers of 1 or 2 digits'; 'of more digits, also'");
        ParishCoat x = Check.told(buttons(2));
        String[] heads = {"bone ", "bone 1 ", "favour ", "favour 1 ", "feud ", "feud 1 ", "quota ", "cold "};
        String[] lastDigits = {"1", "1", "0", "0", "0", "0", "1", "1"};
        String[] tails = {" 1", "", " 1", "", " 1", "", "", ""};
        for (int i = 0; i < heads.length; i++) {
            Check.fault(x, heads[i] + lastDigits[i] + tails[i], -1);
            Check.fault(x, heads[i] + "0" + lastDigits[i] + tails[i], -1);
            for (int zeros = 2; zeros < 100; zeros++) {
                Check.fault(x, heads[i] + "0".repeat(zeros) + lastDigits[i] + tails[i], heads[i].length());
            }
        }
        Check.fault(x, "favour 00 01", -1);
        Check.fault(x, "bone 01 01;quota 01;cold 01", -1);
        Check.fault("cold 4294967296", 5);
        Check.fault("cold 2147483648", 5);
        Check.fault("cold 18446744073709551616", 5);
        Check.fault("quota 4294967299", 6);
    }

    private static void blanks() {
        Check.part("Terms: 'blanks between'");
        ParishCoat x = Check.told(buttons(2));
        Check.fault(x, "  favour  0   1  ;  feud 1  0 ", -1);
        Check.fault(x, "bone 1 1 ;bone 1 1; bone 1 1 ; bone 1 1", -1);
        Check.fault(x, "mi ld", 0);
        Check.fault(x, "bone 1 1 0", 9);
        Check.fault(x, "quota 1 0", 8);
        Check.fault(x, "cold 4 0", 7);
        for (int letter : new int[] {0, 9, 10, 13, 31, 33, 160, 255}) {
            Check.fault(x, "cold" + (char) letter + "4", 4);
            Check.fault(x, (char) letter + "mild", 0);
        }
    }

    private static void everyLetterBehind() {
        Check.part("Terms: every letter behind a clause, ahead of it, behind a digit");
        for (int letter = 0; letter < 256; letter++) {
            boolean small = letter >= 'a' && letter <= 'z';
            boolean digit = letter >= '0' && letter <= '9';
            boolean blank = letter == ' ';
            int behind = small ? 0 : 4;
            Check.fault("mild" + (char) letter, blank ? -1 : letter == ';' ? 5 : behind);
            Check.fault((char) letter + "mild", blank ? -1 : 0);
            int behindDigit = digit ? 5 : 6;
            Check.fault("cold 4" + (char) letter, blank || letter == '0' ? -1 : letter == ';' ? 7 : behindDigit);
        }
    }

    private static void faultIsTheFirst() {
        Check.part("Terms: 'A FAULT is at the first TOKEN .. that cannot stand there'");
        Check.fault("bone 0 100;xx", 5);
        Check.fault("bone 1 100;xx", 7);
        Check.fault("bone 1 99;xx;quota 0", 10);
        Check.fault("quota 0;cold 41", 6);
        Check.fault("quota 1;cold 41", 13);
        Check.fault("quota 1 cold 41", 8);
        Check.fault("! ?", 0);
        Check.fault("mild ! ?", 5);
    }

    private static void faultAtTheEnd() {
        Check.part("Promise 4: 'The place of the FAULT (.. or the length)'");
        Check.fault("bone", 4);
        Check.fault("bone ", 5);
        Check.fault("bone 1", 6);
        Check.fault("bone 1     ", 11);
        Check.fault("mild;quota", 10);
        Check.fault(" ".repeat(155) + "quota", 160);
        Check.fault(" ".repeat(154) + "quota ", 160);
        Check.fault(" ".repeat(153) + "quota 1", -1);
        Check.fault(" ".repeat(153) + "quota 0", 159);
    }

    private static void faultByEarlierTexts() {
        Check.part("Terms: 'what earlier texts told stays', also for faults");
        ParishCoat x = Check.told(buttons(6) + ";cold 1;cold 1;cold 1;cold 1;cold 1");
        Check.fault(x, "bone 1 1", -1);
        Check.fault(x, "bone 1 1;bone 1 1", 9);
        Check.fault(x, "cold 1", -1);
        Check.fault(x, "cold 1;cold 1", 7);
        Check.fault(x, "favour 5 0", -1);
        Check.fault(x, "favour 6 0", 7);
        Check.fault(x, "bone 1 1;favour 6 0", -1);
        Check.fault(x, "coat;favour 5 0", 12);
        Check.due("a text that was only read tells nothing", x.count(0), 6);
    }

    private static void clausesInTheirOrder() {
        Check.part("Terms: 'CLAUSES are done in their order'");
        Check.due("the last quota", Check.told("quota 4;quota 9;quota 8").count(2), 8);
        Check.due("mild, cold", Check.told("cold 1;mild;cold 2").count(3), 2);
        Check.due("cold, mild", Check.told("cold 1;cold 2;mild").count(4), 0);
        Check.due("favour, feud", Check.told(buttons(2) + ";favour 0 1;feud 0 1").family(0, 4), 0);
        Check.due("feud, favour", Check.told(buttons(2) + ";feud 0 1;favour 0 1").family(0, 4), 2);
        Check.due("quota, coat", Check.told("quota 4;coat").count(2), 3);
        Check.due("coat, quota", Check.told("coat;quota 4").count(2), 4);
        Check.due("bone, coat, pearl", Check.told("bone 1 1;coat;pearl 2 2").family(0, 0), 2);
    }

    private static void earlierTextsStay() {
        Check.part("Terms: 'what earlier texts told stays'");
        ParishCoat x = Check.told("bone 1 2;quota 9;cold 3");
        Check.tell(x, "brass 4 5;favour 1 0");
        Check.tell(x, "cold 6");
        Check.due("families", x.count(0), 2);
        Check.due("the first", x.family(0, 1), 1);
        Check.due("quota", x.count(2), 9);
        Check.due("colds", x.count(4), 2);
        Check.due("the first cold is that of DAY 0", x.count(3), 3);
        Check.due("favours", x.family(1, 4), 1);
        Check.tell(x, "mild");
        Check.due("favours", x.family(1, 4), 1);
    }

    private static void behindThem() {
        Check.part("Terms: 'Behind them it is DAY 0, all have 20 HEALTH, nobody is FROZEN ..'");
        ParishCoat x = Check.told("bone 9 1;bone 9 1;quota 1;cold 30");
        x.day(0);
        x.day(-1);
        x.favour(1, 0, 1);
        x.seen(1, 0, 0);
        x.seen(3, 1, 1);
        x.keep(0);
        x.keep(1);
        Check.due("FROZEN", x.count(5), 1);
        Check.tell(x, "cold 29");
        Check.due("DAY 0", x.count(1), 0);
        Check.due("20 HEALTH each", x.family(0, 3) * 100 + x.family(1, 3), 2020);
        Check.due("HEALTH of all", x.count(6), 40);
        Check.due("nobody is FROZEN", x.count(5), 0);
        Check.due("nothing is SEEN", x.count(7), 0);
        Check.due("each quota can be", x.quotas(), 2097150);
        Check.due("nothing is kept, 0", x.back(0), -4);
        Check.due("nothing is kept, 1", x.back(1), -4);
        Check.due("nothing can be undone", x.count(8), 0);
        Check.due("undo()", x.undo(), -4);
        Check.due("who was FROZEN can ask", x.day(0), 1);
        Check.due("THE TEXT is empty", x.count(9), 0);
    }

    private static void behindThemFavours() {
        Check.part("Terms: 'who FAVOURS whom is as told'");
        ParishCoat x = Check.told(buttons(3) + ";favour 0 1;favour 2 1");
        x.favour(0, 1, 0);
        x.favour(1, 2, 1);
        Check.tell(x, "mild");
        Check.due("whom 0 favours", x.family(0, 4), 2);
        Check.due("whom 1 favours", x.family(1, 4), 0);
        Check.due("whom 2 favours", x.family(2, 4), 2);
        x.favour(0, 1, 0);
        Check.tell(x, "feud 2 1;favour 1 0");
        Check.due("whom 0 favours", x.family(0, 4), 2);
        Check.due("whom 1 favours", x.family(1, 4), 1);
        Check.due("whom 2 favours", x.family(2, 4), 0);
    }

    private static void writeLetters() {
        Check.part("Promise 2: 'A letter (its number, 0 .. 255)'");
        ParishCoat x = new ParishCoat();
        for (int letter = 0; letter < 256; letter++) {
            Check.due("write(" + letter + ")", x.write(letter), 1);
            Check.due("erase()", x.erase(), 1);
        }
        Still still = new Still(() -> Check.told("bone 1 1"));
        for (int letter : new int[] {-1, 256, -2, 257, -256, 512, 65536 + 'a', Integer.MIN_VALUE, Integer.MAX_VALUE}) {
            still.due("write(" + letter + ")", y -> y.write(letter), -3);
        }
    }

    private static void writeRefused() {
        Check.part("Promise 2: 'OUTSIDE; FULL', the first of these that fits");
        Still still = new Still(() -> {
            ParishCoat x = Check.told("bone 1 1;bone 1 1");
            Check.write(x, " ".repeat(152) + "quota 20");
            return x;
        });
        for (int letter : new int[] {0, ' ', 'a', 255}) {
            still.due("full, write(" + letter + ")", y -> y.write(letter), -5);
        }
        for (int letter : new int[] {-1, 256, Integer.MIN_VALUE, Integer.MAX_VALUE}) {
            still.due("full, write(" + letter + ")", y -> y.write(letter), -3);
        }
    }

    private static void eraseEmptyAndFull() {
        Check.part("Promise 3: 'THE TEXT is empty: how many letters it had'");
        for (int letters : new int[] {0, 1, 2, 159, 160}) {
            ParishCoat x = new ParishCoat();
            Check.write(x, "m".repeat(letters));
            Check.due("erase() of " + letters, x.erase(), letters);
            Check.due("count(9)", x.count(9), 0);
            Check.due("erase() of none", x.erase(), 0);
            Check.due("fault()", x.fault(), 0);
            Check.tell(x, "mild");
        }
        Still still = new Still(() -> Check.told("bone 1 1;bone 2 2;favour 0 1;quota 9;cold 4"));
        still.due("erase() of the empty", ParishCoat::erase, 0);
    }

    private static void faultChangesNothing() {
        Check.part("Promise 4: fault() is a question");
        for (String text : new String[] {"", "coat;bone 9 9;quota 20;cold 40", "coat;mild;bone 0", "favour 1 0"}) {
            Still still = new Still(() -> {
                ParishCoat x = Check.told("bone 1 1;bone 2 2;favour 0 1;quota 2;cold 30");
                x.day(1);
                x.keep(0);
                x.seen(2, 1, 1);
                Check.write(x, text);
                return x;
            });
            ParishCoat y = Check.told("bone 1 1;bone 2 2");
            Check.write(y, text);
            still.due("fault() of '" + text + "'", ParishCoat::fault, y.fault());
        }
    }

    private static void coatHowMany() {
        Check.part("Promise 5: 'it is empty then: how many there were'");
        for (int many = 1; many <= 14; many++) {
            ParishCoat x = new ParishCoat();
            Check.write(x, " ;mild".repeat(many).substring(2));
            Check.due("coat() of " + many, x.coat(), many);
            Check.due("count(9)", x.count(9), 0);
            Check.due("fault() of the empty", x.fault(), 0);
            Check.due("coat() of the empty", x.coat(), -4);
        }
    }

    private static void coatNot() {
        Check.part("Promise 5: 'NOT: it has a FAULT'");
        String[] texts = {"", " ", "mild;", "quota 0", "coat;quota 21", "bone 9 9;bone 0 9", "coat;favour 0 1", "coat!"};
        for (String text : texts) {
            Still still = new Still(() -> {
                ParishCoat x = Check.told("bone 1 1;bone 2 2;favour 0 1;quota 2;cold 30");
                x.day(1);
                x.keep(1);
                x.favour(1, 0, 1);
                x.seen(2, 1, 1);
                Check.write(x, text);
                return x;
            });
            still.due("coat() of '" + text + "'", ParishCoat::coat, -4);
        }
    }
}
