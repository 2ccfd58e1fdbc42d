import java.util.ArrayList;
import java.util.Arrays;
import java.util.HashMap;
import java.util.LinkedHashMap;
import java.util.List;
import java.util.Map;
import java.util.TreeMap;

/**
 * The document once more, written apart from the program and by other means
 * (texts for profiles, all rings in a sorted list, pairs by sets of foils), to compare answers with.
 */
final class Model {
    private static final List<int[]> RINGS = allRings();

    private static final class Stick {
        int kind;
        int grain;
        List<Integer> holders = new ArrayList<>();
        int due = -1;
        char state = 'H';
        StringBuilder profile = new StringBuilder("0".repeat(40));

        int holder() {
            return holders.get(holders.size() - 1);
        }
    }

    /** Thrown by an act that answers a finding. */
    private static final class Finding extends RuntimeException {
        private static final long serialVersionUID = 1L;
        final int answer;

        Finding(int answer) {
            super(null, null, false, false);
            this.answer = answer;
        }
    }

    private final List<Stick> sticks = new ArrayList<>();
    private final List<int[]> passings = new ArrayList<>();
    private final TreeMap<Integer, Integer> worth = new TreeMap<>(Map.of(1, 1, 2, 12, 3, 240, 4, 1200, 5, 12000));
    private final long[] purses = new long[8];
    private final long[] columns = new long[6];
    private final List<Integer> waiting = new ArrayList<>();
    private final Map<Integer, Integer> findings = new HashMap<>();
    private String pairsHangOn = "";
    private TreeMap<Integer, Integer> lastPairs = new TreeMap<>();
    private int slack = 1;
    private int day = 0;

    Model() {
        Arrays.fill(purses, 1000);
    }

    int call(String text) {
        String[] words = text.split(" ");
        int[] a = new int[4];
        for (int i = 1; i < words.length; i++) {
            a[i - 1] = Integer.parseInt(words[i]);
        }
        try {
            return Math.toIntExact(answer(words[0], a));
        } catch (Finding f) {
            findings.merge(f.answer, 1, Integer::sum);
            return f.answer;
        }
    }

    private long answer(String name, int[] a) {
        return switch (name) {
            case "measure" -> measure(a[0], a[1]);
            case "make" -> make(a[0], a[1]);
            case "notch" -> notch(a[0], a[1], a[2], a[3]);
            case "wear" -> wear(a[0], a[1]);
            case "split" -> split(a[0], a[1], a[2]);
            case "memo" -> memo(a[0], a[1]);
            case "as" -> as(a[0], a[1]);
            case "lose" -> lose(a[0], a[1]);
            case "burn" -> burn(a[0]);
            case "about" -> about(a[0], a[1]);
            case "depth" -> depth(a[0], a[1]);
            case "cut" -> cut(a[0], a[1]);
            case "composed" -> composed(a[0]);
            case "slack" -> slack(a[0]);
            case "apart" -> apart(a[0], a[1]);
            case "pairs" -> pairs().size();
            case "other" -> other(a[0]);
            case "raised" -> raised(a[0]);
            case "day" -> day(a[0]);
            case "pass" -> pass(a[0], a[1]);
            case "holder" -> holder(a[0], a[1]);
            case "passing" -> passing(a[0], a[1]);
            case "owes" -> owesAsked(a[0], a[1]);
            case "net" -> net(a[0]);
            case "ring" -> ringAsked(a[0]);
            case "setOff" -> setOff();
            case "toPay" -> toPay(a[0]);
            case "pay" -> pay(a[0], a[1]);
            case "purse" -> purse(a[0], a[1]);
            case "lay" -> lay(a[0]);
            case "column" -> column(a[0], a[1]);
            case "reduce" -> reduce();
            case "sum" -> sum();
            case "fewest" -> fewest();
            case "tell" -> tell(a[0]);
            case "check" -> check();
            case "count" -> count(a[0]);
            case "found" -> found(a[0]);
            default -> throw new IllegalArgumentException(name);
        };
    }

    private static void unless(boolean holds, int finding) {
        if (!holds) {
            throw new Finding(finding);
        }
    }

    private static boolean in(int n, int from, int to) {
        return from <= n && n <= to;
    }

    private Stick stick(int i) {
        unless(in(i, 0, sticks.size() - 1), Due.BEYOND);
        return sticks.get(i);
    }

    private Stick stock(int i) {
        Stick s = stick(i);
        unless(s.kind == 1, Due.KIND);
        return s;
    }

    private static void party(int p) {
        unless(in(p, 0, 7), Due.BEYOND);
    }

    // ---- measures and wood

    private long measure(int width, int w) {
        unless(worth.containsKey(width) && in(w, 1, 100000), Due.BEYOND);
        unless(w > worth.getOrDefault(width - 1, 0) && w < worth.getOrDefault(width + 1, 100001), Due.BEYOND);
        return worth.put(width, w);
    }

    private long make(int grain, int p) {
        unless(in(grain, 0, 99), Due.BEYOND);
        party(p);
        unless(sticks.size() < 30, Due.FULL);
        return add(0, grain, p, -1, "0".repeat(40));
    }

    private int add(int kind, int grain, int holder, int due, String profile) {
        Stick s = new Stick();
        s.kind = kind;
        s.grain = grain;
        s.holders.add(holder);
        s.due = due;
        s.profile = new StringBuilder(profile);
        sticks.add(s);
        return sticks.size() - 1;
    }

    private long notch(int piece, int place, int width, int depth) {
        Stick s = stick(piece);
        unless(in(place, 0, 39) && in(width, 1, 40) && (long) place + width - 1 <= 39 && in(depth, 0, 9), Due.BEYOND);
        unless(s.state != 'B', Due.STATE);
        s.profile.replace(place, place + width, String.valueOf(depth).repeat(width));
        return value(s);
    }

    private long wear(int piece, int n) {
        Stick s = stick(piece);
        unless(in(n, 1, 9), Due.BEYOND);
        unless(s.state != 'B', Due.STATE);
        String was = s.profile.toString();
        StringBuilder now = new StringBuilder();
        was.chars().forEach(c -> now.append(Math.max(0, c - '0' - n)));
        s.profile = now;
        int changed = 0;
        for (int i = 0; i < 40; i++) {
            changed += was.charAt(i) == now.charAt(i) ? 0 : 1;
        }
        return changed;
    }

    private long split(int piece, int p, int due) {
        Stick s = stick(piece);
        party(p);
        unless(in(due, 0, 9999), Due.BEYOND);
        unless(s.kind == 0, Due.KIND);
        unless(s.state == 'H' && fault(s) < 0 && value(s) != 0, Due.STATE);
        unless(sticks.size() < 30, Due.FULL);
        s.kind = 1;
        s.due = due;
        return add(2, s.grain, p, due, s.profile.toString());
    }

    private long memo(int foil, int p) {
        Stick s = stick(foil);
        party(p);
        unless(s.kind >= 2, Due.KIND);
        unless(s.state == 'H', Due.STATE);
        unless(sticks.size() < 30, Due.FULL);
        return add(3, s.grain, p, s.due, s.profile.toString());
    }

    private long as(int piece, int kind) {
        Stick s = stick(piece);
        unless(in(kind, 0, 3), Due.BEYOND);
        List<List<Integer>> kindsOf = List.of(List.of(0), List.of(1, 0), List.of(2, 0), List.of(3, 2, 0));
        unless(kindsOf.get(s.kind).contains(kind), Due.KIND);
        return s.grain;
    }

    private long lose(int piece, int is) {
        Stick s = stick(piece);
        unless(is == 0 || is == 1, Due.BEYOND);
        unless(s.state == (is == 1 ? 'H' : 'L'), Due.STATE);
        s.state = is == 1 ? 'L' : 'H';
        return 1;
    }

    private long burn(int piece) {
        Stick s = stick(piece);
        unless(s.state != 'B', Due.STATE);
        int was = "HL".indexOf(s.state);
        s.state = 'B';
        return was;
    }

    /** First places and widths. */
    private static LinkedHashMap<Integer, Integer> cuts(CharSequence profile) {
        LinkedHashMap<Integer, Integer> found = new LinkedHashMap<>();
        int place = 0;
        for (String run : profile.toString().replaceAll("[01]", ".").split("(?<=\\.)|(?=\\.)")) {
            if (!run.startsWith(".")) {
                found.put(place, run.length());
            }
            place += run.length();
        }
        return found;
    }

    private static int fault(Stick s) {
        List<Integer> before = new ArrayList<>();
        for (Map.Entry<Integer, Integer> cut : cuts(s.profile).entrySet()) {
            int width = cut.getValue();
            boolean rises = !before.isEmpty() && width > before.get(before.size() - 1);
            long alike = before.stream().filter(w -> w == width).count();
            if (width > 5 || rises || alike == 9) {
                return cut.getKey();
            }
            before.add(width);
        }
        return -1;
    }

    private int value(Stick s) {
        return fault(s) >= 0 ? -1 : cuts(s.profile).values().stream().mapToInt(worth::get).sum();
    }

    private long about(int piece, int what) {
        Stick s = stick(piece);
        unless(in(what, 0, 7), Due.BEYOND);
        int[] all = {s.kind, s.grain, s.holder(), s.due, "HLB".indexOf(s.state), cuts(s.profile).size(), fault(s), value(s)};
        return all[what];
    }

    private long depth(int piece, int place) {
        Stick s = stick(piece);
        unless(in(place, 0, 39), Due.BEYOND);
        return s.profile.charAt(place) - '0';
    }

    private long cut(int piece, int i) {
        Stick s = stick(piece);
        unless(i >= 0, Due.BEYOND);
        List<Map.Entry<Integer, Integer>> all = new ArrayList<>(cuts(s.profile).entrySet());
        unless(i < all.size(), Due.NONE);
        return 100L * all.get(i).getKey() + all.get(i).getValue();
    }

    /** The profile that v is composed to, or null. */
    private String compose(long v) {
        StringBuilder text = new StringBuilder();
        long left = v;
        for (int width : worth.descendingKeySet()) {
            for (int i = 0; i < 9 && left >= worth.get(width); i++) {
                text.append(text.length() == 0 ? "" : "0").append("5".repeat(width));
                left -= worth.get(width);
            }
        }
        return left > 0 || text.length() > 40 ? null : text + "0".repeat(40 - text.length());
    }

    private long composed(int v) {
        unless(in(v, 1, 100000000), Due.BEYOND);
        String profile = compose(v);
        unless(profile != null, Due.STATE);
        return cuts(profile).size();
    }

    // ---- pairs

    private long slack(int n) {
        unless(in(n, 0, 3), Due.BEYOND);
        int was = slack;
        slack = n;
        return was;
    }

    private int firstApart(CharSequence a, CharSequence b) {
        for (int i = 0; i < 40; i++) {
            if (Math.abs(a.charAt(i) - b.charAt(i)) > slack) {
                return i;
            }
        }
        return 40;
    }

    private long apart(int a, int b) {
        Stick one = stick(a);
        Stick two = stick(b);
        unless(one.kind == 1 && two.kind >= 2, Due.KIND);
        int place = firstApart(one.profile, two.profile);
        return place < 40 ? place : one.grain == two.grain ? 40 : -1;
    }

    private List<Integer> held(int kind) {
        List<Integer> all = new ArrayList<>();
        for (int i = 0; i < sticks.size(); i++) {
            if (sticks.get(i).kind == kind && sticks.get(i).state == 'H') {
                all.add(i);
            }
        }
        return all;
    }

    /** Stock to foil, by numbers of stocks; looked for anew when something that they hang on is otherwise. */
    private TreeMap<Integer, Integer> pairs() {
        StringBuilder hangsOn = new StringBuilder().append(slack);
        sticks.forEach(s -> hangsOn.append(';').append(s.kind).append(s.state).append(s.grain).append(' ').append(s.profile));
        if (!hangsOn.toString().equals(pairsHangOn)) {
            pairsHangOn = hangsOn.toString();
            lastPairs = seekPairs();
        }
        return lastPairs;
    }

    private TreeMap<Integer, Integer> seekPairs() {
        List<Integer> stocks = held(1);
        List<Integer> foils = held(2);
        TreeMap<Integer, Integer> found = new TreeMap<>();
        Map<Long, Integer> known = new HashMap<>();
        int used = 0;
        for (int i = 0; i < stocks.size(); i++) {
            int best = most(stocks, foils, i, used, known);
            for (int j = 0; j < foils.size(); j++) {
                if ((used >> j & 1) == 0 && join(stocks.get(i), foils.get(j))
                        && 1 + most(stocks, foils, i + 1, used | 1 << j, known) == best) {
                    found.put(stocks.get(i), foils.get(j));
                    used |= 1 << j;
                    break;
                }
            }
        }
        return found;
    }

    private boolean join(int a, int b) {
        Stick one = sticks.get(a);
        Stick two = sticks.get(b);
        return one.grain == two.grain && firstApart(one.profile, two.profile) == 40;
    }

    private int most(List<Integer> stocks, List<Integer> foils, int i, int used, Map<Long, Integer> known) {
        if (i == stocks.size()) {
            return 0;
        }
        long key = (long) i << 32 | used;
        Integer before = known.get(key);
        if (before != null) {
            return before;
        }
        int best = most(stocks, foils, i + 1, used, known);
        for (int j = 0; j < foils.size(); j++) {
            if ((used >> j & 1) == 0 && join(stocks.get(i), foils.get(j))) {
                best = Math.max(best, 1 + most(stocks, foils, i + 1, used | 1 << j, known));
            }
        }
        known.put(key, best);
        return best;
    }

    private long other(int piece) {
        unless(stick(piece).kind != 0, Due.KIND);
        for (Map.Entry<Integer, Integer> pair : pairs().entrySet()) {
            if (pair.getKey() == piece) {
                return pair.getValue();
            }
            if (pair.getValue() == piece) {
                return pair.getKey();
            }
        }
        throw new Finding(Due.NONE);
    }

    private long raised(int piece) {
        Stick s = stock(piece);
        TreeMap<Integer, Integer> pairs = pairs();
        unless(s.state == 'H' && !pairs.containsKey(piece), Due.NONE);
        for (int foil : held(2)) {
            for (Map.Entry<Integer, Integer> cut : cuts(s.profile).entrySet()) {
                String without = new StringBuilder(s.profile)
                    .replace(cut.getKey(), cut.getKey() + cut.getValue(), "0".repeat(cut.getValue())).toString();
                if (!pairs.containsValue(foil) && sticks.get(foil).grain == s.grain
                        && firstApart(without, sticks.get(foil).profile) == 40) {
                    return 100L * foil + cut.getKey();
                }
            }
        }
        throw new Finding(Due.NONE);
    }

    // ---- days and passings

    private long day(int d) {
        unless(in(d, 0, 9999) && d >= day, Due.BEYOND);
        int by = d - day;
        day = d;
        return by;
    }

    private long pass(int piece, int p) {
        Stick s = stick(piece);
        party(p);
        unless(s.kind == 1, Due.KIND);
        unless(s.state == 'H' && s.holder() != p, Due.STATE);
        unless(passings.size() < 80, Due.FULL);
        passings.add(new int[] {day, piece, s.holder(), p});
        s.holders.add(p);
        return passings.size();
    }

    private long holder(int piece, int d) {
        Stick s = stick(piece);
        unless(in(d, 0, 9999), Due.BEYOND);
        long by = passings.stream().filter(row -> row[1] == piece && row[0] <= d).count();
        return s.holders.get((int) by);
    }

    private long passing(int i, int what) {
        unless(in(i, 0, passings.size() - 1) && in(what, 0, 3), Due.BEYOND);
        return passings.get(i)[what];
    }

    // ---- debts

    /** Debts as stock, foil, debtor, creditor, value, by numbers of stocks. */
    private List<int[]> debts() {
        List<int[]> all = new ArrayList<>();
        pairs().forEach((stock, foil) -> {
            int debtor = sticks.get(foil).holder();
            int creditor = sticks.get(stock).holder();
            int value = value(sticks.get(stock));
            if (debtor != creditor && value > 0) {
                all.add(new int[] {stock, foil, debtor, creditor, value});
            }
        });
        return all;
    }

    private static int owes(List<int[]> debts, int a, int b) {
        return debts.stream().filter(d -> d[2] == a && d[3] == b).mapToInt(d -> d[4]).sum();
    }

    private long owesAsked(int a, int b) {
        party(a);
        party(b);
        unless(a != b, Due.BEYOND);
        return owes(debts(), a, b);
    }

    private long net(int p) {
        party(p);
        return debts().stream().mapToInt(d -> d[3] == p ? d[4] : d[2] == p ? -d[4] : 0).sum();
    }

    private static List<int[]> allRings() {
        List<int[]> all = new ArrayList<>();
        for (int first = 0; first < 8; first++) {
            extend(all, new int[] {first});
        }
        all.sort((a, b) -> a.length != b.length ? a.length - b.length : Arrays.compare(a, b));
        return all;
    }

    private static void extend(List<int[]> all, int[] way) {
        if (way.length > 1) {
            all.add(way);
        }
        for (int next = way[0] + 1; next < 8; next++) {
            int party = next;
            if (Arrays.stream(way).noneMatch(p -> p == party)) {
                int[] longer = Arrays.copyOf(way, way.length + 1);
                longer[way.length] = next;
                extend(all, longer);
            }
        }
    }

    private static int amount(int[][] owed, int[] ring) {
        int least = Integer.MAX_VALUE;
        for (int i = 0; i < ring.length; i++) {
            least = Math.min(least, owed[ring[i]][ring[(i + 1) % ring.length]]);
        }
        return least;
    }

    private int[][] owedMatrix(List<int[]> debts) {
        int[][] owed = new int[8][8];
        debts.forEach(d -> owed[d[2]][d[3]] += d[4]);
        return owed;
    }

    private int[] ring(int[][] owed) {
        return RINGS.stream().filter(r -> amount(owed, r) > 0).findFirst().orElseThrow(() -> new Finding(Due.NONE));
    }

    private long ringAsked(int i) {
        unless(i >= -2, Due.BEYOND);
        int[][] owed = owedMatrix(debts());
        int[] ring = ring(owed);
        unless(i < ring.length, Due.NONE);
        return i == -2 ? amount(owed, ring) : i == -1 ? ring.length : ring[i];
    }

    private long setOff() {
        List<int[]> debts = debts();
        int[][] owed = owedMatrix(debts);
        int[] ring = ring(owed);
        int amount = amount(owed, ring);
        List<int[]> burnt = new ArrayList<>();
        List<int[]> cutDown = new ArrayList<>();
        for (int i = 0; i < ring.length; i++) {
            int left = amount;
            for (int[] debt : debts) {
                if (left > 0 && debt[2] == ring[i] && debt[3] == ring[(i + 1) % ring.length]) {
                    if (debt[4] <= left) {
                        burnt.add(debt);
                        left -= debt[4];
                    } else {
                        cutDown.add(new int[] {debt[0], debt[1], debt[4] - left});
                        left = 0;
                    }
                }
            }
        }
        unless(cutDown.stream().allMatch(d -> compose(d[2]) != null), Due.STATE);
        unless(sticks.size() + 2 * cutDown.size() <= 30, Due.FULL);
        burnt.forEach(this::burnBoth);
        cutDown.forEach(d -> cutDown(d, d[2], sticks.get(d[1]).due));
        return amount;
    }

    private void burnBoth(int[] debt) {
        sticks.get(debt[0]).state = 'B';
        sticks.get(debt[1]).state = 'B';
    }

    private void cutDown(int[] debt, long rest, int due) {
        burnBoth(debt);
        int grain = 0;
        while (hadGrain(grain)) {
            grain++;
        }
        add(1, grain, sticks.get(debt[0]).holder(), due, compose(rest));
        add(2, grain, sticks.get(debt[1]).holder(), due, compose(rest));
    }

    private boolean hadGrain(int grain) {
        return sticks.stream().anyMatch(s -> s.grain == grain);
    }

    private int[] debtOf(int piece) {
        return debts().stream().filter(d -> d[0] == piece).findFirst().orElseThrow(() -> new Finding(Due.NONE));
    }

    private long claim(int[] debt) {
        long claim = debt[4];
        for (int d = sticks.get(debt[1]).due + 30; d <= day; d += 30) {
            claim += debt[4] / 20;
        }
        return claim;
    }

    private long toPay(int piece) {
        stock(piece);
        return claim(debtOf(piece));
    }

    private long pay(int piece, int v) {
        stick(piece);
        unless(v >= 1, Due.BEYOND);
        stock(piece);
        int[] debt = debtOf(piece);
        long rest = claim(debt) - v;
        unless(rest >= 0 && purses[debt[2]] >= v && (rest == 0 || compose(rest) != null), Due.STATE);
        unless(rest == 0 || sticks.size() <= 28, Due.FULL);
        purses[debt[2]] -= v;
        purses[debt[3]] += v;
        if (rest == 0) {
            burnBoth(debt);
        } else {
            cutDown(debt, rest, day + 30 > 9999 ? 9999 : day + 30);
        }
        return rest;
    }

    private long purse(int p, int v) {
        party(p);
        unless(v <= 100000000, Due.BEYOND);
        long was = purses[p];
        purses[p] = v < 0 ? was : v;
        return was;
    }

    // ---- the board

    private long lay(int piece) {
        int[] widths = cuts(stick(piece).profile).values().stream().mapToInt(w -> w).filter(w -> w <= 5).toArray();
        for (int w : widths) {
            columns[w]++;
        }
        return widths.length;
    }

    private long column(int width, int n) {
        unless(in(width, 1, 5) && in(n, -1, 1000), Due.BEYOND);
        long was = columns[width];
        columns[width] = n == -1 ? was : n;
        return was;
    }

    private long reduce() {
        long steps = 0;
        for (int c = 1; c <= 4; c++) {
            if (worth.get(c + 1) % worth.get(c) == 0) {
                int r = worth.get(c + 1) / worth.get(c);
                for (; columns[c] >= r; steps++) {
                    columns[c] -= r;
                    columns[c + 1]++;
                }
            }
        }
        return steps;
    }

    private int sum() {
        long all = 0;
        for (int c = 1; c <= 5; c++) {
            all += columns[c] * worth.get(c);
        }
        return (int) all;
    }

    private long fewest() {
        int sum = sum();
        unless(in(sum, 0, 20000), Due.BEYOND);
        int[] counters = new int[sum + 1];
        Arrays.fill(counters, 1, sum + 1, Integer.MAX_VALUE);
        for (int w : worth.values()) {
            for (int v = w; v <= sum; v++) {
                if (counters[v - w] != Integer.MAX_VALUE) {
                    counters[v] = Math.min(counters[v], counters[v - w] + 1);
                }
            }
        }
        unless(counters[sum] != Integer.MAX_VALUE, Due.NONE);
        return counters[sum];
    }

    // ---- what is told

    private long tell(int v) {
        unless(waiting.size() < 30, Due.FULL);
        waiting.add(v);
        return waiting.size();
    }

    private long check() {
        List<Integer> want = new ArrayList<>(pairs().values());
        List<Integer> got = new ArrayList<>(waiting);
        waiting.clear();
        for (int i = 0; i < want.size(); i++) {
            if (i >= got.size() || !got.get(i).equals(want.get(i))) {
                return 1 + i;
            }
        }
        return got.size() > want.size() ? 99 : 0;
    }

    private long count(int what) {
        unless(in(what, 0, 7), Due.BEYOND);
        return switch (what) {
            case 0 -> sticks.size();
            case 1, 2, 3 -> sticks.stream().filter(s -> s.state == "HLB".charAt(what - 1)).count();
            case 4 -> passings.size();
            case 5 -> day;
            case 6 -> waiting.size();
            default -> debts().size();
        };
    }

    private long found(int k) {
        unless(in(k, 1, 5), Due.BEYOND);
        return findings.getOrDefault(-1000000000 - k, 0);
    }
}
