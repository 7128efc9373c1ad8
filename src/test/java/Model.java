import java.util.ArrayList;
import java.util.Arrays;
import java.util.List;
import java.util.PriorityQueue;
import java.util.TreeMap;
import java.util.regex.Matcher;
import java.util.regex.Pattern;

/**
 * The document once more, written another way (plain lists, everything worked out anew at every
 * call, no care for speed), so that RandomRunsTest can hold the class against it.
 */
final class Model {
    /** All that an image keeps; it is never changed once it is made, only put in another's place. */
    private static final class State {
        int law = 0;
        List<int[]> streets = new ArrayList<>();
        List<int[]> events = new ArrayList<>();
        List<int[]> readings = new ArrayList<>();
        List<Object[]> past = new ArrayList<>();
        TreeMap<Integer, Integer> rents = new TreeMap<>();

        State twin() {
            State t = new State();
            t.law = law;
            t.streets.addAll(streets);
            t.events.addAll(events);
            t.readings.addAll(readings);
            t.past.addAll(past);
            t.rents.putAll(rents);
            return t;
        }
    }

    private static final class Sign {
        int word;
        int number = 1;
        int rank = 0;
        int till = 0;
        int renamed = 0;
    }

    private State now = new State();
    private final State[] images = new State[2];
    private String text = "";
    private final int[] refused = new int[3];

    private long refuse(int why) {
        refused[-2 - why]++;
        return why;
    }

    private static boolean within(int v, int low, int high) {
        return low <= v && v <= high;
    }

    private boolean street(int s) {
        return within(s, 0, now.streets.size() - 1);
    }

    long call(String name, int... v) {
        switch (name) {
            case "town": return town(v[0]);
            case "street": return street(v);
            case "event": return event(v);
            case "back": return back(v[0]);
            case "law": return law(v[0]);
            case "undo": return undo();
            case "rent": return rent(v[0], v[1]);
            case "type": return type(v[0]);
            case "clear": { int n = text.length(); text = ""; return n; }
            case "read": return read();
            case "of": return of(v[0], v[1]);
            case "name": return street(v[0]) && within(v[1], 0, 23) ? names(v[1])[v[0]] : refuse(-2);
            case "changes": return street(v[0]) ? day(now.events, 23)[v[0]].renamed : refuse(-2);
            case "which": return which(v[0], v[1], v[2]);
            case "letter": return letter(v[0], v[1], v[2]);
            case "cab": return cab(v[0], v[1], v[2]);
            case "find": return find(v[0], v[1]);
            case "stage": return stage(v[0], v[1], v[2], v[3]);
            case "forbid": return forbid(v[0]);
            case "rents": return street(v[0]) ? rentsOf(v[0], now.events) : refuse(-2);
            case "landlords": return landlords(v[0], v[1], v[2], v[3]);
            case "round": return round(v[0], v[1]);
            case "reading": return reading(v);
            case "burn": { int n = now.readings.size(); now.readings.clear(); return n; }
            case "truly": return truly(v[0]);
            case "drawn": return drawn(v[0], v[1], v[2]);
            case "image": return image(v[0]);
            case "from": return from(v[0]);
            case "status": if (within(v[0], 0, 2)) return refused[v[0]]; refuse(-2); return -1;
            case "count": return within(v[0], 0, 5) ? count(v[0]) : refuse(-2);
            case "digest": return digest();
            default: throw new IllegalArgumentException(name);
        }
    }

    private long town(int law) {
        if (!within(law, 0, 2)) return refuse(-2);
        int had = now.streets.size();
        now = new State();
        now.law = law;
        return had;
    }

    private long street(int[] v) {
        if (!within(v[0], 0, 7) || !within(v[1], 0, 7) || v[0] == v[1] || !within(v[2], 1, 9) || !within(v[3], 0, 15)) return refuse(-2);
        if (now.streets.size() == 7) return refuse(-4);
        now.streets.add(v.clone());
        now.past.clear();
        return now.streets.size() - 1;
    }

    private long event(int[] v) {
        if (!within(v[0], 0, 5) || !street(v[1]) || !within(v[2], 0, 23) || !within(v[3], 0, 9) || !within(v[4], 0, 9) || !within(v[5], 0, 15)) return refuse(-2);
        if (now.events.size() == 8) return refuse(-4);
        remember();
        now.events.add(v.clone());
        return now.events.size() - 1;
    }

    private void remember() {
        now.past.add(new Object[] {new ArrayList<>(now.events), now.law});
        if (now.past.size() > 8) now.past.remove(0);
    }

    private long back(int e) {
        if (!within(e, 0, now.events.size() - 1)) return refuse(-2);
        remember();
        now.events.remove(e);
        return now.events.size();
    }

    private long law(int n) {
        if (!within(n, 0, 2)) return refuse(-2);
        int was = now.law;
        remember();
        now.law = n;
        return was;
    }

    @SuppressWarnings("unchecked")
    private long undo() {
        if (now.past.isEmpty()) return refuse(-3);
        Object[] old = now.past.remove(now.past.size() - 1);
        now.events = new ArrayList<>((List<int[]>) old[0]);
        now.law = (Integer) old[1];
        return now.events.size();
    }

    private long rent(int word, int n) {
        if (!within(word, 0, 15) || !within(n, 0, 99)) return refuse(-2);
        Integer was = now.rents.put(word, n);
        return was == null ? 0 : was;
    }

    private long type(int c) {
        if (!within(c, 0, 127)) return refuse(-2);
        if (text.length() == 150) return refuse(-4);
        text += (char) c;
        return text.length();
    }

    /** Reads by a fresh Model: each item is a call on it, so a number that the call refuses is the fault. */
    private long read() {
        List<int[]> tokens = new ArrayList<>();
        List<String> words = new ArrayList<>();
        Matcher m = Pattern.compile(" *([a-z]+|[0-9]+|[^ ]|$)", Pattern.DOTALL).matcher(text);
        int at = 0;
        while (at <= text.length() && m.find(at)) {
            words.add(m.group(1));
            tokens.add(new int[] {m.start(1)});
            if (m.group(1).isEmpty()) break;
            at = m.end();
        }
        Model fresh = new Model();
        int i = 0;
        int items = 0;
        while (items == 0 || !words.get(i).isEmpty()) {
            String w = words.get(i);
            boolean known = items == 0 ? w.equals("town") : w.equals("street") || w.equals("event") || w.equals("rent");
            if (!known) return -10 - tokens.get(i)[0];
            if (w.equals("street") && fresh.now.streets.size() == 7) return -10 - tokens.get(i)[0];
            if (w.equals("event") && fresh.now.events.size() == 8) return -10 - tokens.get(i)[0];
            // like numbers that every item takes stand in for those that are not read yet
            int[] v = w.equals("town") ? new int[1] : w.equals("street") ? new int[] {0, 1, 1, 0} : w.equals("event") ? new int[6] : new int[2];
            for (int k = 0; k < v.length; k++) {
                i++;
                if (!words.get(i).matches("[0-9]{1,2}")) return -10 - tokens.get(i)[0];
                v[k] = Integer.parseInt(words.get(i));
                if (w.equals("street") && k == 0) v[1] = v[0] == 1 ? 0 : 1;
                boolean streetWanting = w.equals("event") && k == 0 && fresh.now.streets.isEmpty();
                if (streetWanting ? v[0] > 5 : new Model(fresh).call(w, v) < 0) return -10 - tokens.get(i)[0];
            }
            i++;
            if (!words.get(i).equals(";")) return -10 - tokens.get(i)[0];
            fresh.call(w, v);
            items++;
            i++;
        }
        now = fresh.now;
        now.past.clear();
        return items;
    }

    Model() {
    }

    private Model(Model other) {
        now = other.now.twin();
    }

    private static int needs(int kind) {
        return kind == 0 ? 2 : kind == 1 ? needs(0) + 1 : kind == 2 ? needs(0) : kind == 3 ? needs(0) + 2 : kind == 4 ? needs(1) - 1 : needs(2);
    }

    private static int ranks(int kind, int rank) {
        return kind == 3 ? rank / 2 : kind == 4 ? ranks(1, rank) + 1 : kind == 5 ? ranks(2, rank) + 2 : rank;
    }

    private static int stands(int kind) {
        return kind == 2 ? 9 : kind == 5 ? 2 * stands(2) : 3;
    }

    private int where(int[] e) {
        int bits = 0;
        int[] own = now.streets.get(e[1]);
        for (int s = 0; s < now.streets.size(); s++) {
            int[] it = now.streets.get(s);
            boolean common = it[0] == own[0] || it[0] == own[1] || it[1] == own[0] || it[1] == own[1];
            if (s == e[1] || e[0] == 1 && common) bits += 1 << s;
        }
        return bits;
    }

    private long of(int e, int what) {
        if (!within(e, 0, now.events.size() - 1) || !within(what, 0, 9)) return refuse(-2);
        int[] v = now.events.get(e);
        return what < 6 ? v[what] : what == 6 ? needs(v[0]) : what == 7 ? ranks(v[0], v[4]) : what == 8 ? stands(v[0]) : where(v);
    }

    /** What all streets are called behind an hour, if just these events happen. */
    private Sign[] day(List<int[]> events, int last) {
        Sign[] signs = new Sign[now.streets.size()];
        for (int s = 0; s < signs.length; s++) {
            signs[s] = new Sign();
            signs[s].word = now.streets.get(s)[3];
        }
        for (int hour = 0; hour <= last; hour++) {
            for (int[] e : events) {
                for (int s = 0; s < signs.length; s++) {
                    if (e[2] != hour || (where(e) & 1 << s) == 0 || e[3] < needs(e[0])) continue;
                    Sign sign = signs[s];
                    int rank = ranks(e[0], e[4]);
                    boolean free = sign.till <= hour;
                    boolean lawful = now.law == 2 || now.law == 1 && rank > sign.rank || now.law == 0 && rank >= sign.rank;
                    if (!free && !lawful) continue;
                    int like = 0;
                    for (Sign other : signs) if (other != sign && other.word == e[5]) like++;
                    sign.word = e[5];
                    sign.number = 1 + like;
                    sign.rank = rank;
                    sign.till = hour + stands(e[0]);
                    sign.renamed++;
                }
            }
        }
        return signs;
    }

    private int[] names(int hour) {
        return Arrays.stream(day(now.events, hour)).mapToInt(s -> 100 * s.number + s.word).toArray();
    }

    private long which(int name, int a, int b) {
        if (name < 0 || !within(a, 0, 23) || !within(b, a, 23)) return refuse(-2);
        int bits = 0;
        for (int h = a; h <= b; h++) {
            int[] names = names(h);
            for (int s = 0; s < names.length; s++) if (names[s] == name) bits |= 1 << s;
        }
        return bits;
    }

    private int first(int name, int hour) {
        int[] names = names(hour);
        for (int s = 0; s < names.length; s++) if (names[s] == name) return s;
        return -1;
    }

    private long letter(int s, int a, int b) {
        if (!street(s) || !within(a, 0, 23) || !within(b, a, 23)) return refuse(-2);
        int to = first(names(a)[s], b);
        return to == s ? 0 : to >= 0 ? 1 : 2;
    }

    private long cab(int s, int hour, int k) {
        if (!street(s) || !within(hour, 0, 23) || !within(k, 0, 23)) return refuse(-2);
        return first(names(hour)[s], hour < k ? 0 : hour - k);
    }

    private long find(int streets, int what) {
        if (!within(streets, 0, (1 << now.streets.size()) - 1) || !within(what, 0, 1)) return refuse(-2);
        int bestHour = -1;
        int best = 99;
        for (int h = 0; h < 24; h++) {
            TreeMap<Integer, Integer> many = new TreeMap<>();
            int[] names = names(h);
            for (int s = 0; s < names.length; s++) if ((streets >> s) % 2 == 1) many.merge(names[s], 1, Integer::sum);
            int most = many.values().stream().mapToInt(x -> x).max().orElse(0);
            if (most < best) {
                best = most;
                bestHour = h;
            }
        }
        return what == 0 ? bestHour : best;
    }

    private List<int[]> with(int[]... more) {
        List<int[]> all = new ArrayList<>(now.events);
        all.addAll(Arrays.asList(more));
        return all;
    }

    private long stage(int s, int word, int hour, int i) {
        if (!street(s) || !within(word, 0, 15) || !within(hour, 0, 23) || i < -1) {
            refuse(-2);
            return -10;
        }
        List<int[]> rows = new ArrayList<>();
        rows.add(new int[0]);
        for (int a = 0; a <= hour; a++) rows.add(new int[] {a});
        for (int a = 0; a <= hour; a++) for (int b = a + 1; b <= hour; b++) rows.add(new int[] {a, b});
        for (int[] row : rows) {
            int[][] more = new int[row.length][];
            for (int k = 0; k < row.length; k++) more[k] = new int[] {3, s, row[k], 9, 9, word};
            if (day(with(more), hour)[s].word == word) return i == -1 ? row.length : i < row.length ? row[i] : -5;
        }
        return -1;
    }

    private List<int[]> some(int bits) {
        List<int[]> chosen = new ArrayList<>();
        for (int e = 0; e < now.events.size(); e++) if ((bits >> e & 1) == 1) chosen.add(now.events.get(e));
        return chosen;
    }

    private long forbid(int s) {
        if (!street(s)) return refuse(-2);
        int all = (1 << now.events.size()) - 1;
        for (int n = 0; n <= now.events.size(); n++) {
            for (int bits = 0; bits <= all; bits++) {
                if (Integer.bitCount(bits) == n && day(some(all - bits), 23)[s].word == now.streets.get(s)[3]) return bits;
            }
        }
        return -1;
    }

    private int rentsOf(int s, List<int[]> events) {
        int sum = 0;
        for (int h = 0; h < 24; h++) sum += now.rents.getOrDefault(day(events, h)[s].word, 0);
        return sum;
    }

    private long landlords(int a, int b, int hour, int n) {
        if (!street(a) || !street(b) || a == b || !within(hour, 0, 23) || !within(n, 0, 99)) return refuse(-2);
        int word = 0;
        for (int w = 0; w < 16; w++) if (now.rents.getOrDefault(w, 0) > now.rents.getOrDefault(word, 0)) word = w;
        int[] ofA = {3, a, hour, 9, 9, word};
        int[] ofB = {3, b, hour, 9, 9, word};
        List<List<int[]>> plays = List.of(with(), with(ofA), with(ofB), with(ofA, ofB));
        int bits = 0;
        for (int p = 0; p < 4; p++) {
            boolean aRests = gets(a, plays.get(p), p % 2 * n) >= gets(a, plays.get(p ^ 1), (p ^ 1) % 2 * n);
            boolean bRests = gets(b, plays.get(p), p / 2 * n) >= gets(b, plays.get(p ^ 2), (p ^ 2) / 2 * n);
            if (aRests && bRests) bits |= 1 << p;
        }
        return bits;
    }

    private int gets(int s, List<int[]> events, int pays) {
        return rentsOf(s, events) - pays;
    }

    private long round(int corner, int streets) {
        if (!within(corner, 0, 7) || !within(streets, 0, (1 << now.streets.size()) - 1)) return refuse(-2);
        PriorityQueue<int[]> open = new PriorityQueue<>((x, y) -> x[0] - y[0]);
        boolean[][] seen = new boolean[8][128];
        open.add(new int[] {0, corner, 0});
        while (!open.isEmpty()) {
            int[] at = open.remove();
            if ((at[2] & streets) == streets) return at[0];
            if (seen[at[1]][at[2]]) continue;
            seen[at[1]][at[2]] = true;
            for (int s = 0; s < now.streets.size(); s++) {
                int[] it = now.streets.get(s);
                if (it[0] == at[1]) open.add(new int[] {at[0] + it[2], it[1], at[2] | 1 << s});
                if (it[1] == at[1]) open.add(new int[] {at[0] + it[2], it[0], at[2] | 1 << s});
            }
        }
        return -1;
    }

    private long reading(int[] v) {
        if (!street(v[0]) || !within(v[1], 0, 23) || !within(v[2], 0, 15)) return refuse(-2);
        if (now.readings.size() == 6) return refuse(-4);
        now.readings.add(v.clone());
        return now.readings.size() - 1;
    }

    private long truly(int what) {
        if (!within(what, 0, 1)) {
            refuse(-2);
            return -10;
        }
        int sets = 0;
        int all = (1 << now.events.size()) - 1;
        int common = all;
        for (int bits = 0; bits <= all; bits++) {
            boolean so = true;
            for (int[] r : now.readings) so = so && day(some(bits), r[1])[r[0]].word == r[2];
            if (so) {
                sets++;
                common &= bits;
            }
        }
        return what == 0 ? sets : sets == 0 ? -1 : common;
    }

    private long drawn(int seed, int n, int w) {
        if (!within(seed, 0, 999999) || !within(n, 0, 30) || !within(w, 0, 100)) return refuse(-2);
        long x = seed;
        int times = 0;
        for (int d = 0; d < n; d++) {
            List<int[]> happened = new ArrayList<>();
            for (int[] e : now.events) {
                x = Math.floorMod(x * 1103515245 + 12345, 1L << 31);
                if ((x >> 16) % 100 < w) happened.add(e);
            }
            for (Sign sign : day(happened, 23)) times += sign.renamed;
        }
        return times;
    }

    private long image(int i) {
        if (!within(i, 0, 1)) return refuse(-2);
        images[i] = now.twin();
        return 1;
    }

    private long from(int i) {
        if (!within(i, 0, 1)) return refuse(-2);
        if (images[i] == null) return refuse(-3);
        now = images[i].twin();
        return 1;
    }

    private int count(int what) {
        return new int[] {now.streets.size(), now.events.size(), now.law, now.readings.size(), now.past.size(), text.length()}[what];
    }

    private long digest() {
        List<Integer> v = new ArrayList<>();
        for (int what = 0; what < 6; what++) v.add(count(what));
        for (int[] s : now.streets) for (int x : s) v.add(x);
        for (int[] e : now.events) for (int x : e) v.add(x);
        for (int w = 0; w < 16; w++) v.add(now.rents.getOrDefault(w, 0));
        for (int[] r : now.readings) for (int x : r) v.add(x);
        long h = 911;
        for (int x : v) h = 31 * h + x;
        return h;
    }
}
