import java.util.ArrayList;
import java.util.Arrays;
import java.util.HashMap;
import java.util.List;
import java.util.Map;
import java.util.regex.Matcher;
import java.util.regex.Pattern;

/**
 * The document told a second time, slowly and by other ways than the class goes (every order tried, every game played
 * out, every count of votes walked), so that an error in a short cut shows.
 */
final class Twin implements Women {
    private static final int UNKNOWN = -1, OUTSIDE = -2, STATE = -3, FULL = -4, NO = -5, NONE = -6;
    private static final long GONE = -1000000000000000000L;
    private static final Pattern ACT = Pattern.compile("[A-H][_^/%]|[A-H][x~][A-H]|g[1-9]|\\.");
    private static final Pattern DAYS = Pattern.compile("(?:" + ACT + ")*");

    private Kept now = new Kept();
    private final Kept[] images = new Kept[2];
    private String pad = "";

    static final class Kept {
        int[] nation = new int[8];
        boolean[] down = new boolean[8];
        int[] mesh = {3, 3, 3, 3, 3, 3, 3, 3};
        int[] tears = new int[8];
        boolean[][] treaty = new boolean[8][8];
        int hair = 9;
        int day = 0;
        int[] minutes = {1, 1, 1, 1, 1, 1};
        int[] due = new int[6];
        List<Integer> evenings = new ArrayList<>();
        List<Boolean> sights = new ArrayList<>();

        Kept copy() {
            Kept k = new Kept();
            k.nation = nation.clone();
            k.down = down.clone();
            k.mesh = mesh.clone();
            k.tears = tears.clone();
            for (int i = 0; i < 8; i++) {
                k.treaty[i] = treaty[i].clone();
            }
            k.hair = hair;
            k.day = day;
            k.minutes = minutes.clone();
            k.due = due.clone();
            k.evenings = new ArrayList<>(evenings);
            k.sights = new ArrayList<>(sights);
            return k;
        }

        int thick(int i) {
            return down[i] && mesh[i] > tears[i] ? mesh[i] - tears[i] : 0;
        }

        int treaties() {
            int n = 0;
            for (int i = 0; i < 8; i++) {
                for (int j = 0; j < i; j++) {
                    n += treaty[i][j] ? 1 : 0;
                }
            }
            return n;
        }

        int of(int nation) {
            return (int) Arrays.stream(this.nation).filter(n -> n == nation).count();
        }

        int veils() {
            int bits = 0;
            for (int i = 0; i < 8; i++) {
                bits += down[i] ? 1 << i : 0;
            }
            return bits;
        }

        int why(String act) {
            char last = act.charAt(act.length() - 1);
            if (last == '.') {
                return day == 99 ? 6 : 0;
            }
            if (act.charAt(0) == 'g') {
                return 0;
            }
            int a = act.charAt(0) - 'A';
            int b = last - 'A';
            List<Integer> reasons = new ArrayList<>();
            switch (act.charAt(1)) {
                case '_' -> add(reasons, down[a], 1);
                case '^' -> add(reasons, !down[a], 1);
                case 'x' -> {
                    add(reasons, a == b, 2);
                    add(reasons, !down[b], 1);
                }
                case '~' -> {
                    add(reasons, treaty[a][b], 4);
                    add(reasons, nation[a] != nation[b] && (down[a] || down[b]), 3);
                    add(reasons, a == b, 2);
                }
                case '/' -> add(reasons, tears[a] == 9, 5);
                default -> add(reasons, tears[a] == 0 || hair == 0, 5);
            }
            return reasons.stream().min(Integer::compare).orElse(0);
        }

        private static void add(List<Integer> reasons, boolean is, int reason) {
            if (is) {
                reasons.add(reason);
            }
        }

        void act(String act) {
            char last = act.charAt(act.length() - 1);
            if (last == '.') {
                Kept ahead = copy();
                for (int i = 0; i < 8; i++) {
                    int left = i == 0 ? 7 : i - 1;
                    int right = i == 7 ? 0 : i + 1;
                    if (ahead.down[i] && !ahead.down[left] && !ahead.down[right]
                            && ahead.nation[left] == ahead.nation[right]) {
                        nation[i] = ahead.nation[left];
                    }
                }
                day++;
                return;
            }
            if (act.charAt(0) == 'g') {
                for (int i = 0; i < 8; i++) {
                    if (down[i] && thick(i) < last - '0') {
                        down[i] = false;
                    }
                }
                return;
            }
            int a = act.charAt(0) - 'A';
            int b = last - 'A';
            switch (act.charAt(1)) {
                case '_' -> down[a] = true;
                case '^' -> down[a] = false;
                case 'x' -> {
                    down[b] = false;
                    nation[b] = nation[a];
                }
                case '~' -> {
                    treaty[a][b] = true;
                    treaty[b][a] = true;
                }
                case '/' -> tears[a]++;
                default -> {
                    tears[a]--;
                    hair--;
                }
            }
        }
    }

    private static boolean in(int v, int least, int most) {
        return least <= v && v <= most;
    }

    @Override
    public int one(int one, int nation, int down, int mesh, int tears) {
        if (!in(one, 0, 7)) {
            return UNKNOWN;
        }
        if (!in(nation, 0, 3) || !in(down, 0, 1) || !in(mesh, 1, 9) || !in(tears, 0, 9)) {
            return OUTSIDE;
        }
        int was = now.nation[one];
        now.nation[one] = nation;
        now.down[one] = down == 1;
        now.mesh[one] = mesh;
        now.tears[one] = tears;
        return was;
    }

    @Override
    public int treaty(int one, int other, boolean is) {
        if (!in(one, 0, 7) || !in(other, 0, 7) || one == other) {
            return UNKNOWN;
        }
        now.treaty[one][other] = is;
        now.treaty[other][one] = is;
        return now.treaties();
    }

    @Override
    public int hair(int v) {
        if (!in(v, 0, 99)) {
            return OUTSIDE;
        }
        int was = now.hair;
        now.hair = v;
        return was;
    }

    @Override
    public int pay(int call, int minutes, int due) {
        if (!in(call, 0, 5)) {
            return UNKNOWN;
        }
        if (!in(minutes, 1, 9) || !in(due, 0, 99)) {
            return OUTSIDE;
        }
        int was = now.minutes[call] * 100 + now.due[call];
        now.minutes[call] = minutes;
        now.due[call] = due;
        return was;
    }

    @Override
    public int say(int sign) {
        if (!in(sign, 33, 126)) {
            return OUTSIDE;
        }
        if (pad.length() == 60) {
            return FULL;
        }
        pad += (char) sign;
        return pad.length();
    }

    @Override
    public int wipe() {
        int were = pad.length();
        pad = "";
        return were;
    }

    @Override
    public int fault() {
        for (int end = 1; end <= pad.length(); end++) {
            Matcher m = DAYS.matcher(pad.substring(0, end));
            if (!m.matches() && !m.hitEnd()) {
                return end - 1;
            }
        }
        return DAYS.matcher(pad).matches() ? NONE : pad.length();
    }

    private List<String> acts() {
        List<String> acts = new ArrayList<>();
        Matcher m = ACT.matcher(pad);
        while (m.find()) {
            acts.add(m.group());
        }
        return acts;
    }

    /** {the act that can not be, why, how often annexed, first act, first one}, and where it leads in end. */
    private int[] follow(Kept end) {
        int[] told = {NONE, NONE, 0, NONE, NONE};
        List<String> acts = acts();
        for (int i = 0; i < acts.size(); i++) {
            int why = end.why(acts.get(i));
            if (why != 0) {
                told[0] = i;
                told[1] = why;
                return told;
            }
            int[] ahead = end.nation.clone();
            end.act(acts.get(i));
            for (int w = 0; w < 8; w++) {
                if (end.nation[w] != ahead[w]) {
                    told[2]++;
                    if (told[3] == NONE) {
                        told[3] = i;
                        told[4] = w;
                    }
                }
            }
        }
        return told;
    }

    @Override
    public int judge(int what) {
        if (!in(what, 0, 2)) {
            return OUTSIDE;
        }
        if (fault() != NONE) {
            return NO;
        }
        int[] told = follow(now.copy());
        return what == 2 && told[0] != NONE ? STATE : told[what];
    }

    private int refusal() {
        int often = judge(2);
        return often < 0 ? often : 0;
    }

    @Override
    public int behind(int one, int what) {
        if (!in(one, 0, 7)) {
            return UNKNOWN;
        }
        if (!in(what, 0, 3)) {
            return OUTSIDE;
        }
        if (refusal() != 0) {
            return refusal();
        }
        Kept end = now.copy();
        follow(end);
        return new int[] {end.nation[one], end.down[one] ? 1 : 0, end.tears[one], end.thick(one)}[what];
    }

    @Override
    public int states(int what) {
        if (!in(what, 0, 6)) {
            return OUTSIDE;
        }
        if (refusal() != 0) {
            return refusal();
        }
        Kept end = now.copy();
        follow(end);
        return new int[] {end.of(0), end.of(1), end.of(2), end.of(3), end.hair, end.day, end.treaties()}[what];
    }

    @Override
    public int annexed(int what) {
        if (!in(what, 0, 1)) {
            return OUTSIDE;
        }
        return refusal() != 0 ? refusal() : follow(now.copy())[3 + what];
    }

    @Override
    public int done() {
        if (refusal() != 0) {
            return refusal();
        }
        follow(now);
        int acts = acts().size();
        pad = "";
        return acts;
    }

    @Override
    public int sees(int one, int e) {
        if (!in(one, 0, 7)) {
            return UNKNOWN;
        }
        if (!in(e, 0, 99)) {
            return OUTSIDE;
        }
        int bits = 0;
        for (int other = 0; other < 8; other++) {
            int up = now.thick(one);
            for (int i = one; i != other; i = (i + 1) % 8) {
                up += now.thick((i + 1) % 8);
            }
            int down = now.thick(other);
            for (int i = other; i != one; i = (i + 1) % 8) {
                down += now.thick((i + 1) % 8);
            }
            bits |= other != one && Math.min(up, down) <= e ? 1 << other : 0;
        }
        return bits;
    }

    @Override
    public int camps(int what) {
        if (!in(what, 0, 1)) {
            return OUTSIDE;
        }
        int[] best = {Integer.MAX_VALUE, 0};
        for (int camp = 0; camp < 256; camp++) {
            int quarrels = 0;
            for (int i = 0; i < 8; i++) {
                for (int j = i + 1; j < 8; j++) {
                    boolean together = (camp >> i & 1) == (camp >> j & 1);
                    boolean foes = now.nation[i] != now.nation[j] && !now.treaty[i][j];
                    quarrels += together && foes || !together && now.treaty[i][j] ? 1 : 0;
                }
            }
            if (camp % 2 == 1 && quarrels < best[0]) {
                best = new int[] {quarrels, camp};
            }
        }
        return best[what];
    }

    @Override
    public int late(int what) {
        if (!in(what, 0, 1)) {
            return OUTSIDE;
        }
        int[] best = {7, 0};
        pay(new int[0], best);
        return best[what];
    }

    private void pay(int[] order, int[] best) {
        if (order.length == 6) {
            int minute = 0;
            int late = 0;
            int inTime = 0;
            for (int call : order) {
                minute += now.minutes[call];
                late += minute > now.due[call] ? 1 : 0;
                inTime |= minute > now.due[call] ? 0 : 1 << call;
            }
            if (late < best[0] || late == best[0] && inTime < best[1]) {
                best[0] = late;
                best[1] = inTime;
            }
            return;
        }
        for (int call = 0; call < 6; call++) {
            int next = call;
            if (Arrays.stream(order).noneMatch(c -> c == next)) {
                int[] longer = Arrays.copyOf(order, order.length + 1);
                longer[order.length] = call;
                pay(longer, best);
            }
        }
    }

    @Override
    public int stamps(int a, int b, int c, int n, int what) {
        if (!in(a, 1, 20) || !in(b, 1, 20) || !in(c, 1, 20) || !in(n, 0, 200) || !in(what, 0, 2)) {
            return OUTSIDE;
        }
        if (what == 2) {
            int gap = NONE;
            boolean[] paid = new boolean[701];
            for (int sum = 0; sum <= 700; sum++) {
                paid[sum] = sum == 0 || sum >= a && paid[sum - a] || sum >= b && paid[sum - b] || sum >= c && paid[sum - c];
                gap = paid[sum] ? gap : sum;
            }
            // Sums over 400 can only miss where the worths share a divisor, and then they miss for ever.
            return gap > 400 ? NONE : gap;
        }
        return ways(a, b, c, n)[what];
    }

    /** {fewest, ways}. */
    private static int[] ways(int a, int b, int c, int n) {
        int[] told = {NONE, 0};
        for (int i = 0; i * a <= n; i++) {
            for (int j = 0; i * a + j * b <= n; j++) {
                int left = n - i * a - j * b;
                if (left % c == 0) {
                    told[1]++;
                    int count = i + j + left / c;
                    told[0] = told[0] == NONE ? count : Math.min(told[0], count);
                }
            }
        }
        return told;
    }

    @Override
    public int seen(int evening, boolean down) {
        if (!in(evening, 0, 60)) {
            return OUTSIDE;
        }
        if (now.evenings.size() == 8) {
            return FULL;
        }
        now.evenings.add(evening);
        now.sights.add(down);
        return now.evenings.size();
    }

    @Override
    public int forget() {
        int were = now.evenings.size();
        now.evenings.clear();
        now.sights.clear();
        return were;
    }

    private static boolean down(int code, int evening) {
        int m = code / 100;
        int c = code / 10 % 10;
        int f = code % 10;
        return (evening + f) % m < c;
    }

    private List<Integer> fitting() {
        List<Integer> codes = new ArrayList<>();
        for (int code = 200; code < 800; code++) {
            int m = code / 100;
            int c = code / 10 % 10;
            boolean fits = c >= 1 && c <= m - 1 && code % 10 <= m - 1;
            for (int i = 0; fits && i < now.evenings.size(); i++) {
                fits = down(code, now.evenings.get(i)) == now.sights.get(i);
            }
            if (fits) {
                codes.add(code);
            }
        }
        return codes;
    }

    @Override
    public int fits(int i) {
        List<Integer> codes = fitting();
        return i == -1 ? codes.size() : i >= 0 && i < codes.size() ? codes.get(i) : NONE;
    }

    @Override
    public int ask(int what) {
        if (!in(what, 0, 1)) {
            return OUTSIDE;
        }
        List<Integer> codes = fitting();
        int[] best = {NONE, NONE};
        for (int e = 60; e >= 0 && !codes.isEmpty(); e--) {
            int evening = e;
            int down = (int) codes.stream().filter(code -> down(code, evening)).count();
            int most = Math.max(down, codes.size() - down);
            if (best[0] == NONE || most <= best[1]) {
                best = new int[] {e, most};
            }
        }
        return best[what];
    }

    @Override
    public int lift(int what) {
        if (!in(what, 0, 1)) {
            return OUTSIDE;
        }
        int move = winning(now.veils(), new HashMap<>());
        return what == 1 ? move : move == NONE ? 0 : 1;
    }

    private static int winning(int veils, Map<Integer, Integer> known) {
        Integer move = known.get(veils);
        if (move != null) {
            return move;
        }
        int least = NONE;
        for (int i = 0; i < 8 && least == NONE; i++) {
            for (int j = 0; j <= i && least == NONE && (veils >> i & 1) == 1; j++) {
                int left = veils - (1 << i);
                int then = j == i ? left : left ^ 1 << j;
                least = winning(then, known) == NONE ? 10 * i + j : NONE;
            }
        }
        known.put(veils, least);
        return least;
    }

    @Override
    public long votes(int a, int b, int what, int part) {
        if (!in(a, 0, 20) || !in(b, 0, 20) || !in(what, 0, 1) || !in(part, 0, 1)) {
            return GONE + OUTSIDE;
        }
        long[][] all = new long[a + 1][b + 1];
        long[][] good = new long[a + 1][b + 1];
        for (int i = 0; i <= a; i++) {
            for (int j = 0; j <= b; j++) {
                boolean start = i == 0 && j == 0;
                all[i][j] = start ? 1 : (i > 0 ? all[i - 1][j] : 0) + (j > 0 ? all[i][j - 1] : 0);
                boolean holds = start || (what == 0 ? i > j : i >= j);
                good[i][j] = start ? 1 : !holds ? 0 : (i > 0 ? good[i - 1][j] : 0) + (j > 0 ? good[i][j - 1] : 0);
            }
        }
        long x = good[a][b];
        long y = all[a][b];
        while (y != 0) {
            long rest = x % y;
            x = y;
            y = rest;
        }
        return (part == 0 ? good[a][b] : all[a][b]) / x;
    }

    @Override
    public int year(int seed, int m, int what) {
        if (!in(seed, 0, 9999) || !in(m, 1, 99) || !in(what, 0, 2)) {
            return OUTSIDE;
        }
        Kept end = now.copy();
        long x = seed;
        for (int i = 0; i < m; i++) {
            x = (75 * x + 74) % 65537;
            long z = x / 64;
            char who = (char) ('A' + x % 8);
            char other = (char) ('A' + z % 8);
            String act = switch ((int) (x / 8 % 8)) {
                case 0, 1 -> who + "_";
                case 2 -> who + "^";
                case 3 -> who + "x" + other;
                case 4 -> who + "~" + other;
                case 5 -> who + "/";
                case 6 -> "g" + (z % 9 + 1);
                default -> ".";
            };
            if (end.why(act) == 0) {
                end.act(act);
            }
        }
        return new int[] {end.of(0), Integer.bitCount(end.veils()), end.treaties()}[what];
    }

    @Override
    public int image(int k) {
        if (!in(k, 0, 1)) {
            return OUTSIDE;
        }
        images[k] = now.copy();
        return 1;
    }

    @Override
    public int restore(int k) {
        if (!in(k, 0, 1)) {
            return OUTSIDE;
        }
        if (images[k] == null) {
            return STATE;
        }
        now = images[k].copy();
        return 1;
    }

    @Override
    public int told(int what) {
        if (in(what, 0, 4)) {
            return new int[] {pad.length(), now.veils(), now.hair, now.day, now.evenings.size()}[what];
        }
        if (in(what, 10, 17)) {
            int bits = 0;
            for (int i = 0; i < 8; i++) {
                bits |= now.treaty[what - 10][i] ? 1 << i : 0;
            }
            return bits;
        }
        if (in(what, 20, 25)) {
            return now.minutes[what - 20];
        }
        if (in(what, 30, 35)) {
            return now.due[what - 30];
        }
        if (in(what, 100, 179) && what % 10 <= 2) {
            int one = what / 10 - 10;
            return new int[] {now.nation[one], now.mesh[one], now.tears[one]}[what % 10];
        }
        return OUTSIDE;
    }
}
