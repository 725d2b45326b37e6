import java.util.Arrays;

/**
 * One coat for the whole parish: each family owns a button of it, and it is worn by vote.
 * What the calls answer is told in the project's document, promise by promise.
 */
public final class ParishCoat {
    public static final int NONE = -1, UNKNOWN = -2, OUTSIDE = -3, NOT = -4, FULL = -5;

    /** What a check answers where nothing is refused: no refusal is 0. */
    private static final int GRANTED = 0;

    private static final int MOST_FAMILIES = 7, MOST_WARMTH = 9, MOST_PRICE = 99;
    private static final int MOST_QUOTA = 20, FIRST_QUOTA = 3;
    private static final int MOST_COLDS = 6, MOST_COLD = 40, USUAL_COLD = 5;
    private static final int MOST_LETTERS = 160, MOST_LETTER = 255, MOST_CLAUSES = 14;
    private static final int MOST_HEALTH = 20, GAIN_OF_WEARER = 2, SHARE_OF_COLD = 5;
    private static final int LAST_DAY = 999, MOST_UNDONE = 8, MOST_KEPT = 2;
    private static final int MOST_TURNS = 4, FIRST_ASKER = 2;
    private static final int MOST_SEEN = 6;
    private static final int MOST_FROSTS = 6, ODDS_BELOW = 10;

    private static final int BONE = 0, BRASS = 1, PEARL = 2, LOOSE = 3;
    private static final int AS_BUTTON = 0, AS_BONE = 1, AS_LOOSE = 4;

    /** The words of clauses; those of the four kinds are the kinds' own numbers. */
    private static final int FAVOUR = 4, FEUD = 5, QUOTA = 6, COLD = 7, MILD = 8, COAT = 9;

    private static final int[] FACTORIALS = {1, 1, 2, 6, 24, 120, 720, 5040};

    private final Reader reader = new Reader();
    private final Letters text = reader.text;
    private final Told told = new Told();
    private final Winter now = new Winter();
    private final Past past = new Past();
    private final Votes votes = new Votes();
    private final Smallest smallest = new Smallest();
    private final Rota rota = new Rota();

    public ParishCoat() {
    }

    // ---- what is told

    public int write(int letter) {
        if (letter < 0 || letter > MOST_LETTER) {
            return OUTSIDE;
        }
        if (text.length >= MOST_LETTERS) {
            return FULL;
        }
        text.add(letter);
        return text.length;
    }

    public int erase() {
        int had = text.length;
        text.length = 0;
        return had;
    }

    public int fault() {
        return reader.read(told);
    }

    public int coat() {
        if (reader.read(told) != NONE) {
            return NOT;
        }
        told.copyFrom(reader.draft);
        now.begin(told);
        past.forgetAll();
        votes.size = 0;
        text.length = 0;
        return reader.clauses;
    }

    public int family(int family, int what) {
        if (!isFamily(family)) {
            return UNKNOWN;
        }
        switch (what) {
            case 0:
                return told.kinds[family];
            case 1:
                return told.warmths[family];
            case 2:
                return told.prices[family];
            case 3:
                return now.healths[family];
            case 4:
                return now.favouredOf(family);
            case 5:
                return now.doneUpFor(family);
            case 6:
                return told.weightOf(family, now.isNight());
            default:
                return OUTSIDE;
        }
    }

    public int as(int family, int kind) {
        if (!isFamily(family)) {
            return UNKNOWN;
        }
        if (kind < AS_BUTTON || kind > AS_LOOSE) {
            return OUTSIDE;
        }
        if (!isUnder(told.kinds[family], kind)) {
            return NOT;
        }
        return 10 * told.weightOf(family, false) + told.weightOf(family, true);
    }

    // ---- days

    public int favour(int family, int other, int on) {
        if (!isFamily(family) || !isFamily(other) || family == other) {
            return UNKNOWN;
        }
        if (!isYesOrNo(on)) {
            return OUTSIDE;
        }
        if (now.isFrozen(family) || now.isFrozen(other)) {
            return NOT;
        }
        past.remember(now);
        int was = holds(now.favourers[other], family) ? 1 : 0;
        now.favourers[other] = with(now.favourers[other], family, on == 1);
        return was;
    }

    public int day(int family) {
        if (family != NONE && !isFamily(family)) {
            return UNKNOWN;
        }
        if (family != NONE && now.isFrozen(family)) {
            return NOT;
        }
        if (now.date >= LAST_DAY) {
            return FULL;
        }
        past.remember(now);
        return now.passDay(told, family);
    }

    public int undo() {
        if (past.size == 0) {
            return NOT;
        }
        past.recall(now);
        return past.size;
    }

    public int keep(int k) {
        if (k < 0 || k >= MOST_KEPT) {
            return UNKNOWN;
        }
        past.kept[k].copyFrom(now);
        past.isKept[k] = true;
        return now.date;
    }

    public int back(int k) {
        if (k < 0 || k >= MOST_KEPT) {
            return UNKNOWN;
        }
        if (!past.isKept[k]) {
            return NOT;
        }
        now.copyFrom(past.kept[k]);
        past.size = 0;
        return now.date;
    }

    // ---- foretold

    public int warm(int set) {
        return isSet(set) ? told.warmthOfSet(set) : UNKNOWN;
    }

    public int carried(int family) {
        int refused = refusalFor(family, 0, 0);
        if (refused != GRANTED) {
            return refused;
        }
        return now.isCarriedFor(told, family) ? 1 : 0;
    }

    public int fewest(int family, int what) {
        int refused = refusalFor(family, what, 3);
        if (refused != GRANTED) {
            return refused;
        }
        smallest.search(told, now, family);
        if (smallest.sets == 0) {
            return NONE;
        }
        switch (what) {
            case 0:
                return smallest.families;
            case 1:
                return smallest.sets;
            case 2:
                return smallest.least;
            default:
                return smallest.inMost();
        }
    }

    public int swings(int family) {
        int refused = refusalFor(family, 0, 0);
        if (refused != GRANTED) {
            return refused;
        }
        int others = othersThan(family);
        int swings = 0;
        for (int set = 0; set <= told.all(); set++) {
            if (isWithin(set, others) && isSwing(set, family)) {
                swings++;
            }
        }
        return swings;
    }

    public int lot(int family, int part) {
        int refused = refusalFor(family, part, 1);
        if (refused != GRANTED) {
            return refused;
        }
        int others = othersThan(family);
        int manyOthers = Integer.bitCount(others);
        int rows = 0;
        for (int set = 0; set <= told.all(); set++) {
            if (isWithin(set, others) && isSwing(set, family)) {
                int ahead = Integer.bitCount(set);
                rows += factorial(ahead) * factorial(manyOthers - ahead);
            }
        }
        return partOf(rows, factorial(manyOthers + 1), part);
    }

    public int win(int family, int what) {
        int refused = refusalFor(family, what, 1);
        if (refused != GRANTED) {
            return refused;
        }
        int doneUp = now.doneUpFor(family);
        int toBeWon = othersThan(family) & ~doneUp;
        int least = NONE;
        int price = 0;
        for (int set = 0; set <= told.all(); set++) {
            if (!isWithin(set, toBeWon) || !isWonBy(doneUp | set)) {
                continue;
            }
            int asked = told.priceOfSet(set);
            if (least == NONE || asked < price) {
                least = set;
                price = asked;
            }
        }
        return least == NONE || what == 1 ? least : price;
    }

    public int block(int family) {
        int refused = refusalFor(family, 0, 0);
        if (refused != GRANTED) {
            return refused;
        }
        int others = othersThan(family);
        int everyone = others | bit(family);
        int cold = told.coldOn(now.date);
        int least = NONE;
        int few = MOST_FAMILIES + 1;
        for (int set = 0; set <= told.all(); set++) {
            int many = Integer.bitCount(set);
            if (isWithin(set, others) && many < few && told.warmthOfSet(everyone & ~set) < cold) {
                least = set;
                few = many;
            }
        }
        return least;
    }

    public int wrong(int family) {
        int refused = refusalFor(family, 0, 0);
        if (refused != GRANTED) {
            return refused;
        }
        return told.warmthOfSet((now.doneUpFor(family) << 1) & told.all());
    }

    public int turns(int n, int what) {
        if (n < 0 || n > MOST_TURNS || what < 0 || what >= FIRST_ASKER + MOST_TURNS) {
            return OUTSIDE;
        }
        if (what >= FIRST_ASKER + n) {
            return NONE;
        }
        rota.find(told, now, n);
        switch (what) {
            case 0:
                return rota.fewestFrozen;
            case 1:
                return rota.mostHealth;
            default:
                return rota.best[what - FIRST_ASKER];
        }
    }

    // ---- what was seen

    public int seen(int set, int night, int carried) {
        if (!isSet(set)) {
            return UNKNOWN;
        }
        if (!isYesOrNo(night) || !isYesOrNo(carried)) {
            return OUTSIDE;
        }
        if (votes.size >= MOST_SEEN) {
            return FULL;
        }
        votes.add(set, night == 1, carried == 1);
        return votes.size;
    }

    public int forget() {
        int had = votes.size;
        votes.size = 0;
        return had;
    }

    public int quotas() {
        int quotas = 0;
        for (int quota = 1; quota <= MOST_QUOTA; quota++) {
            if (votes.agreeWith(told, quota)) {
                quotas |= bit(quota);
            }
        }
        return quotas;
    }

    public int frosts(int n, int k, int q, int part) {
        if (n < 0 || n > MOST_FROSTS || k < 0 || k > MOST_FROSTS) {
            return OUTSIDE;
        }
        if (q < 0 || q > ODDS_BELOW || !isYesOrNo(part)) {
            return OUTSIDE;
        }
        int above = 0;
        int below = 1;
        int[] ways = waysOfFrosts(n, q);
        for (int frosty = k; frosty <= n; frosty++) {
            above += ways[frosty];
        }
        for (int i = 0; i < n; i++) {
            below *= ODDS_BELOW;
        }
        return partOf(above, below, part);
    }

    public int count(int what) {
        switch (what) {
            case 0:
                return told.families;
            case 1:
                return now.date;
            case 2:
                return told.quota;
            case 3:
                return told.coldOn(now.date);
            case 4:
                return told.coldCount;
            case 5:
                return now.frozen;
            case 6:
                return now.healthOfAll();
            case 7:
                return votes.size;
            case 8:
                return past.size;
            case 9:
                return text.length;
            default:
                return OUTSIDE;
        }
    }

    // ---- what the calls share

    private boolean isFamily(int family) {
        return family >= 0 && family < told.families;
    }

    private boolean isSet(int set) {
        return isWithin(set, told.all());
    }

    /** The refusal of a call that asks one who must not be FROZEN for 'what' of 0 .. most. */
    private int refusalFor(int family, int what, int most) {
        if (!isFamily(family)) {
            return UNKNOWN;
        }
        if (what < 0 || what > most) {
            return OUTSIDE;
        }
        return now.isFrozen(family) ? NOT : GRANTED;
    }

    /** All who are not FROZEN, but one. */
    private int othersThan(int family) {
        return told.all() & ~now.frozen & ~bit(family);
    }

    private boolean isSwing(int others, int family) {
        boolean night = now.isNight();
        int weight = told.weightOfSet(others, night);
        return weight < told.quota && weight + told.weightOf(family, night) >= told.quota;
    }

    private boolean isWonBy(int doneUp) {
        return told.isCarriedBy(doneUp, now.isNight()) && told.warmthOfSet(doneUp) >= told.coldOn(now.date);
    }

    private static boolean isYesOrNo(int number) {
        return number == 0 || number == 1;
    }

    private static int bit(int place) {
        return 1 << place;
    }

    private static boolean holds(int set, int family) {
        return (set >> family & 1) == 1;
    }

    private static int with(int set, int family, boolean on) {
        return on ? set | bit(family) : set & ~bit(family);
    }

    private static boolean isWithin(int set, int whole) {
        return (set & ~whole) == 0;
    }

    /** Whether a button of a kind is one of those over it too: BRASS and PEARL are BONE, all are BUTTONS. */
    private static boolean isUnder(int kind, int asKind) {
        if (asKind == AS_BUTTON || asKind == kind + 1) {
            return true;
        }
        return asKind == AS_BONE && (kind == BRASS || kind == PEARL);
    }

    private static int factorial(int n) {
        return n >= 0 && n < FACTORIALS.length ? FACTORIALS[n] : 0;
    }

    /** Of the 10^n ways that n days can go, how many have 0, 1 .. frosty ones. */
    private static int[] waysOfFrosts(int n, int q) {
        int[] ways = new int[MOST_FROSTS + 1];
        ways[0] = 1;
        for (int i = 0; i < n; i++) {
            for (int frosty = MOST_FROSTS; frosty > 0; frosty--) {
                ways[frosty] = ways[frosty] * (ODDS_BELOW - q) + ways[frosty - 1] * q;
            }
            ways[0] *= ODDS_BELOW - q;
        }
        return ways;
    }

    private static int partOf(int above, int below, int part) {
        int common = commonDivisor(above, below);
        if (common == 0) {
            return 0;
        }
        return (part == 0 ? above : below) / common;
    }

    /** Euclid's; 64 steps are more than any two ints need. */
    private static int commonDivisor(int a, int b) {
        int larger = a;
        int smaller = b;
        for (int step = 0; step < 64 && smaller != 0; step++) {
            int rest = larger % smaller;
            larger = smaller;
            smaller = rest;
        }
        return larger;
    }

    /** THE TEXT: what was written and is not done yet. */
    private static final class Letters {
        private final int[] letters = new int[MOST_LETTERS];
        int length;

        void add(int letter) {
            if (length < MOST_LETTERS) {
                letters[length] = letter;
                length++;
            }
        }

        int at(int place) {
            return place >= 0 && place < length ? letters[place] : NONE;
        }
    }

    /** What texts have told: buttons, quota, colds, and who favours whom before any favour(). */
    private static final class Told {
        int families;
        int quota = FIRST_QUOTA;
        int coldCount;
        final int[] kinds = new int[MOST_FAMILIES];
        final int[] warmths = new int[MOST_FAMILIES];
        final int[] prices = new int[MOST_FAMILIES];
        final int[] favourers = new int[MOST_FAMILIES];
        private final int[] colds = new int[MOST_COLDS];

        void clear() {
            families = 0;
            quota = FIRST_QUOTA;
            coldCount = 0;
        }

        void copyFrom(Told other) {
            families = other.families;
            quota = other.quota;
            coldCount = other.coldCount;
            System.arraycopy(other.kinds, 0, kinds, 0, MOST_FAMILIES);
            System.arraycopy(other.warmths, 0, warmths, 0, MOST_FAMILIES);
            System.arraycopy(other.prices, 0, prices, 0, MOST_FAMILIES);
            System.arraycopy(other.favourers, 0, favourers, 0, MOST_FAMILIES);
            System.arraycopy(other.colds, 0, colds, 0, MOST_COLDS);
        }

        void addFamily(int kind, int warmth, int price) {
            if (families < MOST_FAMILIES) {
                kinds[families] = kind;
                warmths[families] = warmth;
                prices[families] = price;
                favourers[families] = 0;
                families++;
            }
        }

        void addCold(int cold) {
            if (coldCount < MOST_COLDS) {
                colds[coldCount] = cold;
                coldCount++;
            }
        }

        int all() {
            return bit(families) - 1;
        }

        int coldOn(int date) {
            return coldCount > 0 && date >= 0 ? colds[date % coldCount] : USUAL_COLD;
        }

        int weightOf(int family, boolean night) {
            switch (kinds[family]) {
                case BRASS:
                    return night ? 2 : 1;
                case PEARL:
                    return 2;
                case LOOSE:
                    return night ? 0 : 1;
                default:
                    return 1;
            }
        }

        int weightOfSet(int set, boolean night) {
            int weight = 0;
            for (int f = 0; f < families; f++) {
                if (holds(set, f)) {
                    weight += weightOf(f, night);
                }
            }
            return weight;
        }

        boolean isCarriedBy(int set, boolean night) {
            return weightOfSet(set, night) >= quota;
        }

        int warmthOfSet(int set) {
            int besides = set << 1 | set >> 1;
            int warmth = 0;
            for (int f = 0; f < families; f++) {
                if (holds(set, f)) {
                    warmth += holds(besides, f) ? warmths[f] : warmths[f] / 2;
                }
            }
            return warmth;
        }

        int priceOfSet(int set) {
            int price = 0;
            for (int f = 0; f < families; f++) {
                if (holds(set, f)) {
                    price += prices[f];
                }
            }
            return price;
        }
    }

    /** Reads THE TEXT token by token, doing its clauses on a draft of what is told. */
    private static final class Reader {
        final Letters text = new Letters();
        final Told draft = new Told();
        int clauses;
        private int start;
        private int end;

        /** The place of the FAULT, or NONE; the draft is worth something only behind NONE. */
        int read(Told from) {
            draft.copyFrom(from);
            end = 0;
            next();
            for (clauses = 1; clauses <= MOST_CLAUSES; clauses++) {
                if (!readClause()) {
                    return start;
                }
                if (start >= text.length) {
                    return NONE;
                }
                // No clause may follow the last one that is allowed, so no ; may either.
                if (text.at(start) != ';' || clauses == MOST_CLAUSES) {
                    return start;
                }
                next();
            }
            return start;
        }

        private void next() {
            start = end;
            while (start < text.length && text.at(start) == ' ') {
                start++;
            }
            end = start;
            if (isSmall(start)) {
                while (end < text.length && isSmall(end)) {
                    end++;
                }
            } else if (isDigit(start)) {
                while (end < text.length && isDigit(end)) {
                    end++;
                }
            } else if (end < text.length) {
                end++;
            }
        }

        private boolean isSmall(int place) {
            return text.at(place) >= 'a' && text.at(place) <= 'z';
        }

        private boolean isDigit(int place) {
            return text.at(place) >= '0' && text.at(place) <= '9';
        }

        private boolean readClause() {
            int word = wordHere();
            if (word == NONE || !hasRoomFor(word)) {
                return false;
            }
            next();
            switch (word) {
                case COAT:
                    draft.clear();
                    return true;
                case MILD:
                    draft.coldCount = 0;
                    return true;
                case QUOTA:
                    return readQuota();
                case COLD:
                    return readCold();
                case FAVOUR:
                case FEUD:
                    return readFavour(word == FAVOUR);
                default:
                    return readButton(word);
            }
        }

        private int wordHere() {
            if (isWord("bone")) {
                return BONE;
            }
            if (isWord("brass")) {
                return BRASS;
            }
            if (isWord("pearl")) {
                return PEARL;
            }
            if (isWord("loose")) {
                return LOOSE;
            }
            if (isWord("favour")) {
                return FAVOUR;
            }
            if (isWord("feud")) {
                return FEUD;
            }
            if (isWord("quota")) {
                return QUOTA;
            }
            if (isWord("cold")) {
                return COLD;
            }
            if (isWord("mild")) {
                return MILD;
            }
            return isWord("coat") ? COAT : NONE;
        }

        private boolean isWord(String word) {
            if (end - start != word.length()) {
                return false;
            }
            for (int i = 0; i < word.length(); i++) {
                if (text.at(start + i) != word.charAt(i)) {
                    return false;
                }
            }
            return true;
        }

        private boolean hasRoomFor(int word) {
            if (word == COLD) {
                return draft.coldCount < MOST_COLDS;
            }
            return word > LOOSE || draft.families < MOST_FAMILIES;
        }

        private boolean readButton(int kind) {
            int warmth = numberHere(1, MOST_WARMTH);
            if (warmth == NONE) {
                return false;
            }
            next();
            int price = numberHere(0, MOST_PRICE);
            if (price == NONE) {
                return false;
            }
            next();
            draft.addFamily(kind, warmth, price);
            return true;
        }

        private boolean readFavour(boolean on) {
            int family = numberHere(0, draft.families - 1);
            if (family == NONE) {
                return false;
            }
            next();
            int other = numberHere(0, draft.families - 1);
            if (other == NONE || other == family) {
                return false;
            }
            next();
            draft.favourers[other] = with(draft.favourers[other], family, on);
            return true;
        }

        private boolean readQuota() {
            int quota = numberHere(1, MOST_QUOTA);
            if (quota == NONE) {
                return false;
            }
            next();
            draft.quota = quota;
            return true;
        }

        private boolean readCold() {
            int cold = numberHere(0, MOST_COLD);
            if (cold == NONE) {
                return false;
            }
            next();
            draft.addCold(cold);
            return true;
        }

        /** The token as a number of one or two digits within bounds, or NONE. */
        private int numberHere(int least, int most) {
            if (!isDigit(start) || end - start > 2) {
                return NONE;
            }
            int number = 0;
            for (int place = start; place < end; place++) {
                number = 10 * number + text.at(place) - '0';
            }
            return number >= least && number <= most ? number : NONE;
        }
    }

    /** What days and favour() change: the DAY, HEALTH, who is FROZEN, who favours whom. */
    private static final class Winter {
        int date;
        int frozen;
        final int[] healths = new int[MOST_FAMILIES];
        /** By family, those who favour it, by bits. */
        final int[] favourers = new int[MOST_FAMILIES];

        void begin(Told told) {
            date = 0;
            frozen = 0;
            for (int f = 0; f < MOST_FAMILIES; f++) {
                healths[f] = f < told.families ? MOST_HEALTH : 0;
                favourers[f] = f < told.families ? told.favourers[f] : 0;
            }
        }

        void copyFrom(Winter other) {
            date = other.date;
            frozen = other.frozen;
            System.arraycopy(other.healths, 0, healths, 0, MOST_FAMILIES);
            System.arraycopy(other.favourers, 0, favourers, 0, MOST_FAMILIES);
        }

        boolean isNight() {
            return (date & 1) == 1;
        }

        boolean isFrozen(int family) {
            return holds(frozen, family);
        }

        int favouredOf(int family) {
            int favoured = 0;
            for (int f = 0; f < MOST_FAMILIES; f++) {
                favoured = with(favoured, f, holds(favourers[f], family));
            }
            return favoured;
        }

        /** Nobody is done up for nobody, nor for a FROZEN one. */
        int doneUpFor(int family) {
            if (family == NONE || isFrozen(family)) {
                return 0;
            }
            return (favourers[family] | bit(family)) & ~frozen;
        }

        boolean isCarriedFor(Told told, int family) {
            return told.isCarriedBy(doneUpFor(family), isNight());
        }

        /** Those who are FROZEN by a day on which one asks, or nobody (NONE). */
        int passDay(Told told, int asker) {
            int frozenBefore = frozen;
            int cold = told.coldOn(date);
            int doneUp = doneUpFor(asker);
            int wearer = told.isCarriedBy(doneUp, isNight()) ? asker : NONE;
            int lack = cold - told.warmthOfSet(doneUp);
            for (int f = 0; f < told.families; f++) {
                if (holds(frozenBefore, f)) {
                    continue;
                }
                if (f == wearer) {
                    changeHealth(f, lack > 0 ? -lack : GAIN_OF_WEARER);
                } else {
                    changeHealth(f, -(cold / SHARE_OF_COLD));
                }
            }
            date++;
            return frozen & ~frozenBefore;
        }

        private void changeHealth(int family, int change) {
            int health = Math.min(healths[family] + change, MOST_HEALTH);
            healths[family] = Math.max(health, 0);
            frozen = with(frozen, family, health <= 0);
        }

        int healthOfAll() {
            int together = 0;
            for (int f = 0; f < MOST_FAMILIES; f++) {
                together += healths[f];
            }
            return together;
        }
    }

    /** What can be undone, the oldest giving way to the newest, and what is kept. */
    private static final class Past {
        private final Winter[] undone = new Winter[MOST_UNDONE];
        private int newest;
        int size;
        final Winter[] kept = new Winter[MOST_KEPT];
        final boolean[] isKept = new boolean[MOST_KEPT];

        Past() {
            for (int i = 0; i < MOST_UNDONE; i++) {
                undone[i] = new Winter();
            }
            for (int k = 0; k < MOST_KEPT; k++) {
                kept[k] = new Winter();
            }
        }

        void forgetAll() {
            size = 0;
            for (int k = 0; k < MOST_KEPT; k++) {
                isKept[k] = false;
            }
        }

        void remember(Winter winter) {
            newest = (newest + 1) % MOST_UNDONE;
            undone[newest].copyFrom(winter);
            size = Math.min(size + 1, MOST_UNDONE);
        }

        void recall(Winter winter) {
            if (size > 0) {
                winter.copyFrom(undone[newest]);
                newest = (newest + MOST_UNDONE - 1) % MOST_UNDONE;
                size--;
            }
        }
    }

    /** What is SEEN. */
    private static final class Votes {
        private final int[] sets = new int[MOST_SEEN];
        private final boolean[] nights = new boolean[MOST_SEEN];
        private final boolean[] outcomes = new boolean[MOST_SEEN];
        int size;

        void add(int set, boolean night, boolean outcome) {
            if (size < MOST_SEEN) {
                sets[size] = set;
                nights[size] = night;
                outcomes[size] = outcome;
                size++;
            }
        }

        boolean agreeWith(Told told, int quota) {
            for (int i = 0; i < size; i++) {
                boolean outcome = told.weightOfSet(sets[i], nights[i]) >= quota;
                if (outcome != outcomes[i]) {
                    return false;
                }
            }
            return true;
        }
    }

    /** FEWEST: the sets of fewest families that keep one warm. */
    private static final class Smallest {
        int families;
        int sets;
        int least;
        private final int[] timesIn = new int[MOST_FAMILIES];

        void search(Told told, Winter now, int family) {
            int cold = told.coldOn(now.date);
            int awake = told.all() & ~now.frozen;
            families = MOST_FAMILIES + 1;
            sets = 0;
            for (int set = 0; set <= told.all(); set++) {
                boolean asked = isWithin(set, awake) && holds(set, family);
                if (asked && Integer.bitCount(set) <= families && told.warmthOfSet(set) >= cold) {
                    take(set, family);
                }
            }
        }

        private void take(int set, int family) {
            int many = Integer.bitCount(set);
            if (many < families) {
                families = many;
                sets = 0;
                least = set;
                Arrays.fill(timesIn, 0);
            }
            sets++;
            for (int f = 0; f < MOST_FAMILIES; f++) {
                if (f != family && holds(set, f)) {
                    timesIn[f]++;
                }
            }
        }

        int inMost() {
            int most = 1;
            int those = 0;
            for (int f = 0; f < MOST_FAMILIES; f++) {
                if (timesIn[f] > most) {
                    most = timesIn[f];
                    those = 0;
                }
                those = with(those, f, timesIn[f] == most);
            }
            return those;
        }
    }

    /** TURNS: the row of askers by which fewest freeze. */
    private static final class Rota {
        int fewestFrozen;
        int mostHealth;
        final int[] best = new int[MOST_TURNS];
        private final int[] askers = new int[MOST_TURNS];
        private final Winter[] winters = new Winter[MOST_TURNS + 1];

        Rota() {
            for (int i = 0; i <= MOST_TURNS; i++) {
                winters[i] = new Winter();
            }
        }

        void find(Told told, Winter now, int n) {
            fewestFrozen = MOST_FAMILIES + 1;
            mostHealth = 0;
            winters[0].copyFrom(now);
            tryFrom(told, 0, n);
        }

        private void tryFrom(Told told, int depth, int n) {
            if (depth >= n || depth >= MOST_TURNS) {
                compare(winters[depth]);
                return;
            }
            Winter here = winters[depth];
            for (int asker = NONE; asker < told.families; asker++) {
                // One who would not wear it changes no more than nobody does, who comes first.
                if (asker != NONE && !here.isCarriedFor(told, asker)) {
                    continue;
                }
                askers[depth] = asker;
                winters[depth + 1].copyFrom(here);
                winters[depth + 1].passDay(told, asker);
                tryFrom(told, depth + 1, n);
            }
        }

        /** Only what is better takes the place of the best: of several, the first stays. */
        private void compare(Winter last) {
            int frozen = Integer.bitCount(last.frozen);
            int health = last.healthOfAll();
            if (frozen < fewestFrozen || frozen == fewestFrozen && health > mostHealth) {
                fewestFrozen = frozen;
                mostHealth = health;
                System.arraycopy(askers, 0, best, 0, MOST_TURNS);
            }
        }
    }
}
