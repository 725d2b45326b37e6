import java.util.ArrayDeque;
import java.util.ArrayList;
import java.util.Deque;
import java.util.List;
import java.util.TreeMap;
import java.util.TreeSet;
import java.util.regex.Matcher;
import java.util.regex.Pattern;

/**
 * The document once more, by other means (lists, patterns, all rows, all ways), for random runs.
 * It is slow, and only good calls and plain refusals are looked at; it shares nothing with the program.
 */
final class PlainParish {
    static final int NONE = -1, UNKNOWN = -2, OUTSIDE = -3, NOT = -4, FULL = -5;
    private static final Pattern TOKEN = Pattern.compile(" *([a-z]+|[0-9]+|[^ ])", Pattern.DOTALL);
    private static final List<String> KINDS = List.of("bone", "brass", "pearl", "loose");

    record Button(String kind, int warmth, int price) {
        int weight(boolean night) {
            return switch (kind) {
                case "brass" -> night ? 2 : 1;
                case "pearl" -> 2;
                case "loose" -> night ? 0 : 1;
                default -> 1;
            };
        }
    }

    /** What a text tells. */
    static final class Told {
        List<Button> buttons = new ArrayList<>();
        TreeSet<String> favours = new TreeSet<>();
        List<Integer> colds = new ArrayList<>();
        int quota = 3;

        Told copy() {
            Told other = new Told();
            other.buttons.addAll(buttons);
            other.favours.addAll(favours);
            other.colds.addAll(colds);
            other.quota = quota;
            return other;
        }
    }

    record State(int day, List<Integer> healths, TreeSet<String> favours) {
    }

    record Vote(int set, int night, int carried) {
    }

    private String text = "";
    private Told told = new Told();
    private State now = new State(0, List.of(), new TreeSet<>());
    private final Deque<State> undone = new ArrayDeque<>();
    private final TreeMap<Integer, State> kept = new TreeMap<>();
    private final List<Vote> votes = new ArrayList<>();
    private Told draft;
    private int clauses;

    // ---- what is told

    int write(int letter) {
        if (letter < 0 || letter > 255) {
            return OUTSIDE;
        }
        if (text.length() == 160) {
            return FULL;
        }
        text += (char) letter;
        return text.length();
    }

    int erase() {
        int had = text.length();
        text = "";
        return had;
    }

    int fault() {
        List<String> tokens = new ArrayList<>();
        List<Integer> places = new ArrayList<>();
        Matcher m = TOKEN.matcher(text);
        int from = 0;
        while (m.find(from)) {
            tokens.add(m.group(1));
            places.add(m.start(1));
            from = m.end();
        }
        places.add(text.length());
        draft = told.copy();
        clauses = 0;
        int at = 0;
        while (true) {
            int bad = clause(tokens, at);
            if (bad >= 0) {
                return places.get(bad);
            }
            clauses++;
            at += length(tokens.get(at));
            if (at == tokens.size()) {
                return NONE;
            }
            if (!tokens.get(at).equals(";") || clauses == 14) {
                return places.get(at);
            }
            at++;
        }
    }

    private static int length(String word) {
        return switch (word) {
            case "coat", "mild" -> 1;
            case "quota", "cold" -> 2;
            default -> 3;
        };
    }

    /** The number of the token at fault, or -1, and then the clause is done. */
    private int clause(List<String> tokens, int at) {
        String word = at < tokens.size() ? tokens.get(at) : "";
        int families = draft.buttons.size();
        switch (word) {
            case "coat" -> draft = new Told();
            case "mild" -> draft.colds.clear();
            case "quota" -> {
                if (!within(tokens, at + 1, 1, 20)) {
                    return at + 1;
                }
                draft.quota = Integer.parseInt(tokens.get(at + 1));
            }
            case "cold" -> {
                if (draft.colds.size() == 6) {
                    return at;
                }
                if (!within(tokens, at + 1, 0, 40)) {
                    return at + 1;
                }
                draft.colds.add(Integer.parseInt(tokens.get(at + 1)));
            }
            case "favour", "feud" -> {
                for (int i = 1; i <= 2; i++) {
                    if (!within(tokens, at + i, 0, families - 1)) {
                        return at + i;
                    }
                }
                int a = Integer.parseInt(tokens.get(at + 1));
                int b = Integer.parseInt(tokens.get(at + 2));
                if (a == b) {
                    return at + 2;
                }
                if (word.equals("favour")) {
                    draft.favours.add(a + ">" + b);
                } else {
                    draft.favours.remove(a + ">" + b);
                }
            }
            case "bone", "brass", "pearl", "loose" -> {
                if (families == 7) {
                    return at;
                }
                if (!within(tokens, at + 1, 1, 9)) {
                    return at + 1;
                }
                if (!within(tokens, at + 2, 0, 99)) {
                    return at + 2;
                }
                draft.buttons.add(new Button(word, Integer.parseInt(tokens.get(at + 1)),
                    Integer.parseInt(tokens.get(at + 2))));
            }
            default -> {
                return at;
            }
        }
        return -1;
    }

    private static boolean within(List<String> tokens, int at, int least, int most) {
        if (at >= tokens.size() || !tokens.get(at).matches("[0-9]{1,2}")) {
            return false;
        }
        int number = Integer.parseInt(tokens.get(at));
        return number >= least && number <= most;
    }

    int coat() {
        if (fault() != NONE) {
            return NOT;
        }
        told = draft;
        text = "";
        List<Integer> healths = new ArrayList<>();
        for (int i = 0; i < told.buttons.size(); i++) {
            healths.add(20);
        }
        now = new State(0, healths, new TreeSet<>(told.favours));
        undone.clear();
        kept.clear();
        votes.clear();
        return clauses;
    }

    int family(int f, int what) {
        if (!known(f)) {
            return UNKNOWN;
        }
        return switch (what) {
            case 0 -> KINDS.indexOf(told.buttons.get(f).kind);
            case 1 -> told.buttons.get(f).warmth;
            case 2 -> told.buttons.get(f).price;
            case 3 -> now.healths.get(f);
            case 4 -> {
                int bits = 0;
                for (int g = 0; g < size(); g++) {
                    bits += now.favours.contains(f + ">" + g) ? 1 << g : 0;
                }
                yield bits;
            }
            case 5 -> frozen(now, f) ? 0 : doneUp(now, f);
            case 6 -> told.buttons.get(f).weight(night(now));
            default -> OUTSIDE;
        };
    }

    int as(int f, int kind) {
        if (!known(f)) {
            return UNKNOWN;
        }
        if (kind < 0 || kind > 4) {
            return OUTSIDE;
        }
        Button b = told.buttons.get(f);
        List<Integer> kinds = switch (b.kind) {
            case "bone" -> List.of(0, 1);
            case "brass" -> List.of(0, 1, 2);
            case "pearl" -> List.of(0, 1, 3);
            default -> List.of(0, 4);
        };
        return kinds.contains(kind) ? 10 * b.weight(false) + b.weight(true) : NOT;
    }

    // ---- days

    int favour(int a, int b, int on) {
        if (!known(a) || !known(b) || a == b) {
            return UNKNOWN;
        }
        if (on != 0 && on != 1) {
            return OUTSIDE;
        }
        if (frozen(now, a) || frozen(now, b)) {
            return NOT;
        }
        remember();
        TreeSet<String> favours = new TreeSet<>(now.favours);
        boolean was = on == 1 ? !favours.add(a + ">" + b) : favours.remove(a + ">" + b);
        now = new State(now.day, now.healths, favours);
        return was ? 1 : 0;
    }

    int day(int f) {
        if (f != NONE && !known(f)) {
            return UNKNOWN;
        }
        if (f != NONE && frozen(now, f)) {
            return NOT;
        }
        if (now.day == 999) {
            return FULL;
        }
        remember();
        int before = frozenBits(now);
        now = after(now, f);
        return frozenBits(now) - before;
    }

    private State after(State s, int asker) {
        int cold = cold(s.day);
        List<Integer> healths = new ArrayList<>(s.healths);
        boolean worn = asker != NONE && !frozen(s, asker) && weight(doneUp(s, asker), night(s)) >= told.quota;
        for (int f = 0; f < healths.size(); f++) {
            if (frozen(s, f)) {
                continue;
            }
            int health = healths.get(f);
            if (!worn || f != asker) {
                health -= cold / 5;
            } else if (warmth(doneUp(s, f)) >= cold) {
                health = Math.min(20, health + 2);
            } else {
                health -= cold - warmth(doneUp(s, f));
            }
            healths.set(f, Math.max(0, health));
        }
        return new State(s.day + 1, healths, s.favours);
    }

    private void remember() {
        undone.push(now);
        if (undone.size() > 8) {
            undone.removeLast();
        }
    }

    int undo() {
        if (undone.isEmpty()) {
            return NOT;
        }
        now = undone.pop();
        return undone.size();
    }

    int keep(int k) {
        if (k != 0 && k != 1) {
            return UNKNOWN;
        }
        kept.put(k, now);
        return now.day;
    }

    int back(int k) {
        if (k != 0 && k != 1) {
            return UNKNOWN;
        }
        if (!kept.containsKey(k)) {
            return NOT;
        }
        now = kept.get(k);
        undone.clear();
        return now.day;
    }

    // ---- foretold

    int warm(int set) {
        return setKnown(set) ? warmth(set) : UNKNOWN;
    }

    int carried(int f) {
        if (!known(f)) {
            return UNKNOWN;
        }
        if (frozen(now, f)) {
            return NOT;
        }
        return weight(doneUp(now, f), night(now)) >= told.quota ? 1 : 0;
    }

    private int refusal(int f, int what, int most) {
        return !known(f) ? UNKNOWN : what < 0 || what > most ? OUTSIDE : frozen(now, f) ? NOT : 0;
    }

    /** Sets of those who are not frozen. */
    private List<Integer> sets() {
        List<Integer> sets = new ArrayList<>();
        for (int set = 0; set < 1 << size(); set++) {
            if ((set & frozenBits(now)) == 0) {
                sets.add(set);
            }
        }
        return sets;
    }

    int fewest(int f, int what) {
        if (refusal(f, what, 3) != 0) {
            return refusal(f, what, 3);
        }
        TreeMap<Integer, List<Integer>> bySize = new TreeMap<>();
        for (int set : sets()) {
            if (in(set, f) && warmth(set) >= cold(now.day)) {
                bySize.computeIfAbsent(Integer.bitCount(set), n -> new ArrayList<>()).add(set);
            }
        }
        if (bySize.isEmpty()) {
            return NONE;
        }
        List<Integer> least = bySize.firstEntry().getValue();
        if (what == 0) {
            return bySize.firstKey();
        }
        if (what == 1) {
            return least.size();
        }
        if (what == 2) {
            return least.stream().mapToInt(i -> i).min().getAsInt();
        }
        TreeMap<Long, Integer> byTimes = new TreeMap<>();
        for (int g = 0; g < size(); g++) {
            int other = g;
            long times = least.stream().filter(s -> in(s, other)).count();
            if (g != f && times > 0) {
                byTimes.merge(times, 1 << g, Integer::sum);
            }
        }
        return byTimes.isEmpty() ? 0 : byTimes.lastEntry().getValue();
    }

    int swings(int f) {
        if (refusal(f, 0, 0) != 0) {
            return refusal(f, 0, 0);
        }
        return (int) sets().stream().filter(s -> !in(s, f) && swing(s, f)).count();
    }

    private boolean swing(int set, int f) {
        return weight(set, night(now)) < told.quota && weight(set | 1 << f, night(now)) >= told.quota;
    }

    int lot(int f, int part) {
        if (refusal(f, part, 1) != 0) {
            return refusal(f, part, 1);
        }
        long[] rows = {0, 0};
        rows(0, f, rows);
        return part(rows[0], rows[1], part);
    }

    /** All rows of those who are not frozen, one by one: those that are his, and all. */
    private void rows(int ahead, int f, long[] rows) {
        int rest = ((1 << size()) - 1) & ~frozenBits(now) & ~ahead;
        for (int g = 0; g < size(); g++) {
            if (in(rest, g) && g != f) {
                rows(ahead | 1 << g, f, rows);
            } else if (g == f) {
                long ways = 1;
                for (int i = Integer.bitCount(rest) - 1; i > 1; i--) {
                    ways *= i;
                }
                rows[0] += swing(ahead, f) ? ways : 0;
                rows[1] += ways;
            }
        }
    }

    private static int part(long above, long below, int part) {
        long common = java.math.BigInteger.valueOf(above).gcd(java.math.BigInteger.valueOf(below)).longValue();
        return (int) ((part == 0 ? above : below) / common);
    }

    int win(int f, int what) {
        if (refusal(f, what, 1) != 0) {
            return refusal(f, what, 1);
        }
        TreeMap<Integer, Integer> byPrice = new TreeMap<>();
        for (int set : sets()) {
            boolean strangers = true;
            int price = 0;
            for (int g = 0; g < size(); g++) {
                if (in(set, g)) {
                    strangers &= g != f && !now.favours.contains(g + ">" + f);
                    price += told.buttons.get(g).price;
                }
            }
            int up = doneUp(now, f) | set;
            if (strangers && weight(up, night(now)) >= told.quota && warmth(up) >= cold(now.day)) {
                byPrice.merge(price, set, Math::min);
            }
        }
        if (byPrice.isEmpty()) {
            return NONE;
        }
        return what == 0 ? byPrice.firstKey() : byPrice.firstEntry().getValue();
    }

    int block(int f) {
        if (refusal(f, 0, 0) != 0) {
            return refusal(f, 0, 0);
        }
        TreeMap<Integer, Integer> bySize = new TreeMap<>();
        List<Integer> sets = sets();
        int all = sets.get(sets.size() - 1);
        for (int set : sets) {
            if (!in(set, f) && warmth(all - set) < cold(now.day)) {
                bySize.merge(Integer.bitCount(set), set, Math::min);
            }
        }
        return bySize.isEmpty() ? NONE : bySize.firstEntry().getValue();
    }

    int wrong(int f) {
        if (refusal(f, 0, 0) != 0) {
            return refusal(f, 0, 0);
        }
        int behind = 0;
        for (int g = 0; g + 1 < size(); g++) {
            behind |= in(doneUp(now, f), g) ? 1 << g + 1 : 0;
        }
        return warmth(behind);
    }

    int turns(int n, int what) {
        if (n < 0 || n > 4 || what < 0 || what > 5) {
            return OUTSIDE;
        }
        int[] best = {99, 0, NONE, NONE, NONE, NONE};
        tryRows(now, n, new ArrayList<>(), best);
        return best[what];
    }

    private void tryRows(State s, int n, List<Integer> row, int[] best) {
        if (row.size() == n) {
            int frozen = Integer.bitCount(frozenBits(s));
            int health = s.healths.stream().mapToInt(i -> i).sum();
            if (frozen < best[0] || frozen == best[0] && health > best[1]) {
                best[0] = frozen;
                best[1] = health;
                for (int i = 0; i < n; i++) {
                    best[2 + i] = row.get(i);
                }
            }
            return;
        }
        for (int f = NONE; f < size(); f++) {
            row.add(f);
            tryRows(after(s, f), n, row, best);
            row.remove(row.size() - 1);
        }
    }

    // ---- what was seen

    int seen(int set, int night, int carried) {
        if (!setKnown(set)) {
            return UNKNOWN;
        }
        if (night != 0 && night != 1 || carried != 0 && carried != 1) {
            return OUTSIDE;
        }
        if (votes.size() == 6) {
            return FULL;
        }
        votes.add(new Vote(set, night, carried));
        return votes.size();
    }

    int forget() {
        int had = votes.size();
        votes.clear();
        return had;
    }

    int quotas() {
        int bits = 0;
        for (int q = 1; q <= 20; q++) {
            int quota = q;
            boolean so = votes.stream()
                .allMatch(v -> (weight(v.set, v.night == 1) >= quota ? 1 : 0) == v.carried);
            bits |= so ? 1 << q : 0;
        }
        return bits;
    }

    int frosts(int n, int k, int q, int part) {
        if (n < 0 || n > 6 || k < 0 || k > 6 || q < 0 || q > 10 || part < 0 || part > 1) {
            return OUTSIDE;
        }
        return part(frosty(n, k, q), (long) Math.pow(10, n), part);
    }

    private static long frosty(int n, int k, int q) {
        if (n == 0) {
            return k <= 0 ? 1 : 0;
        }
        return q * frosty(n - 1, k - 1, q) + (10 - q) * frosty(n - 1, k, q);
    }

    int count(int what) {
        return switch (what) {
            case 0 -> size();
            case 1 -> now.day;
            case 2 -> told.quota;
            case 3 -> cold(now.day);
            case 4 -> told.colds.size();
            case 5 -> frozenBits(now);
            case 6 -> now.healths.stream().mapToInt(i -> i).sum();
            case 7 -> votes.size();
            case 8 -> undone.size();
            case 9 -> text.length();
            default -> OUTSIDE;
        };
    }

    // ---- terms

    private int size() {
        return told.buttons.size();
    }

    private boolean known(int f) {
        return f >= 0 && f < size();
    }

    private boolean setKnown(int set) {
        return set >= 0 && set < 1 << size();
    }

    private static boolean in(int set, int f) {
        return (set >> f & 1) == 1;
    }

    private static boolean night(State s) {
        return s.day % 2 == 1;
    }

    private static boolean frozen(State s, int f) {
        return s.healths.get(f) == 0;
    }

    private static int frozenBits(State s) {
        int bits = 0;
        for (int f = 0; f < s.healths.size(); f++) {
            bits += frozen(s, f) ? 1 << f : 0;
        }
        return bits;
    }

    private int cold(int day) {
        return told.colds.isEmpty() ? 5 : told.colds.get(day % told.colds.size());
    }

    private int doneUp(State s, int f) {
        int bits = 0;
        for (int g = 0; g < size(); g++) {
            boolean favours = g == f || s.favours.contains(g + ">" + f);
            bits += favours && !frozen(s, g) ? 1 << g : 0;
        }
        return bits;
    }

    private int weight(int set, boolean night) {
        int weight = 0;
        for (int f = 0; f < size(); f++) {
            weight += in(set, f) ? told.buttons.get(f).weight(night) : 0;
        }
        return weight;
    }

    private int warmth(int set) {
        int warmth = 0;
        for (int f = 0; f < size(); f++) {
            if (in(set, f)) {
                boolean alone = (f == 0 || !in(set, f - 1)) && (f + 1 == size() || !in(set, f + 1));
                warmth += told.buttons.get(f).warmth / (alone ? 2 : 1);
            }
        }
        return warmth;
    }
}
