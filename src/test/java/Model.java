import java.math.BigInteger;
import java.util.ArrayDeque;
import java.util.ArrayList;
import java.util.Arrays;
import java.util.Deque;
import java.util.List;
import java.util.function.ToIntFunction;
import java.util.regex.Matcher;
import java.util.regex.Pattern;

/** The document once more, written in another way and with no thought of speed, to set the program's answers against. */
final class Model {
    private static final int BAD = -1, NOT = -2, FULL = -3, NONE = -4, NULL = -11, CAST = -12, INDEX = -13, SIZE = -14;

    private enum Kind {
        PLAIN {
            int gain(State s, Holder h) {
                return 10 - s.lamp[h.bay];
            }
        },
        SHY {
            int gain(State s, Holder h) {
                long open = s.beside(h).stream().filter(b -> !b.taken).count();
                return Math.max(0, PLAIN.gain(s, h) - (int) open);
            }
        },
        MISS {
            int gain(State s, Holder h) {
                return PLAIN.gain(s, h) + (h.bay % 5 == 0 ? 3 : 0);
            }
        },
        SOLICITOR {
            int gain(State s, Holder h) {
                return Math.min(4, SHY.gain(s, h));
            }
        },
        YOUNG {
            int gain(State s, Holder h) {
                return MISS.gain(s, h) + 2 * (int) s.beside(h).stream().filter(b -> b.taken).count();
            }
        };

        abstract int gain(State s, Holder h);
    }

    private static final class Holder {
        Kind kind;
        int used;
        int bay;
        int likes;
        boolean taken;

        Holder(int kind, int used, int bay, int likes) {
            this.kind = Kind.values()[kind];
            this.used = used;
            this.bay = bay;
            this.likes = likes;
            this.taken = used == 99;
        }

        Holder(Holder h) {
            this(h.kind.ordinal(), h.used, h.bay, h.likes);
            taken = h.taken;
        }

        int far() {
            return Math.abs(bay - likes);
        }

        void talked() {
            if (!taken) {
                used = used < 5 ? 0 : used - 5;
            }
        }
    }

    private static final class State {
        List<Holder> holders = new ArrayList<>();
        int[] lamp = {3, 3, 3, 3, 3, 3};
        int[] due = {20, 20, 20, 20, 20, 20};
        int day = 0;
        int dues = 0;
        BigInteger draw = BigInteger.ONE;

        State copied() {
            State s = new State();
            for (Holder h : holders) {
                s.holders.add(new Holder(h));
            }
            s.lamp = lamp.clone();
            s.due = due.clone();
            s.day = day;
            s.dues = dues;
            s.draw = draw;
            return s;
        }

        Holder in(int bay) {
            for (Holder h : holders) {
                if (h.bay == bay) {
                    return h;
                }
            }
            return null;
        }

        List<Holder> beside(Holder one) {
            List<Holder> list = new ArrayList<>();
            for (Holder h : holders) {
                if (h.bay == one.bay + 1 || h.bay == one.bay - 1) {
                    list.add(h);
                }
            }
            return list;
        }

        State dayLater() {
            State next = copied();
            for (int i = 0; i < holders.size(); i++) {
                Holder was = holders.get(i);
                Holder is = next.holders.get(i);
                if (!was.taken) {
                    is.used = Math.min(99, was.used + was.kind.gain(this, was));
                    is.taken = is.used == 99;
                    next.dues += due[was.bay];
                }
            }
            next.day++;
            return next;
        }

        State later(int n) {
            return n == 0 ? this : dayLater().later(n - 1);
        }

        State drifted() {
            State s = copied();
            s.draw = draw.multiply(BigInteger.valueOf(1103515245)).add(BigInteger.valueOf(12345)).mod(BigInteger.ONE.shiftLeft(31));
            boolean talks = s.draw.shiftRight(16).mod(BigInteger.valueOf(3)).signum() == 0;
            if (talks && !holders.isEmpty()) {
                s.holders.get(s.draw.shiftRight(7).mod(BigInteger.valueOf(holders.size())).intValue()).talked();
            }
            return s.dayLater();
        }

        int taken() {
            int set = 0;
            for (int i = 0; i < holders.size(); i++) {
                set += holders.get(i).taken ? 1 << i : 0;
            }
            return set;
        }

        int far() {
            return holders.stream().mapToInt(Holder::far).sum();
        }

        State seated(int[] bays) {
            State s = copied();
            for (int i = 0; i < holders.size(); i++) {
                s.holders.get(i).bay = bays[i];
            }
            return s;
        }

        List<int[]> swaps() {
            List<int[]> pairs = new ArrayList<>();
            for (int i = 0; i < holders.size(); i++) {
                for (int j = i + 1; j < holders.size(); j++) {
                    State s = swapped(i, j);
                    if (s.holders.get(i).far() < holders.get(i).far() && s.holders.get(j).far() < holders.get(j).far()) {
                        pairs.add(new int[] {i, j});
                    }
                }
            }
            return pairs;
        }

        State swapped(int i, int j) {
            State s = copied();
            s.holders.get(i).bay = holders.get(j).bay;
            s.holders.get(j).bay = holders.get(i).bay;
            return s;
        }
    }

    private State now = new State();
    private Deque<State> past = new ArrayDeque<>();
    private State keptNow = null;
    private Deque<State> keptPast = null;
    private String tape = "";
    private final Object[] sheets = new Object[4];

    private boolean is(int holder) {
        return holder >= 0 && holder < now.holders.size();
    }

    private static boolean in(int v, int from, int to) {
        return from <= v && v <= to;
    }

    private void ahead() {
        past.addLast(now.copied());
        while (past.size() > 8) {
            past.removeFirst();
        }
    }

    int holder(int kind, int used, int likes) {
        if (!in(kind, 0, 4) || !in(used, 0, 99) || !in(likes, 0, 5)) {
            return BAD;
        }
        if (now.holders.size() == 6) {
            return FULL;
        }
        int bay = 0;
        while (now.in(bay) != null) {
            bay++;
        }
        now.holders.add(new Holder(kind, used, bay, likes));
        past.clear();
        return now.holders.size() - 1;
    }

    int rule(int bay, int what, int v) {
        if (!in(bay, 0, 5) || !in(what, 0, 1) || v < 0 || what == 0 && v > 9 || what == 1 && v > 99) {
            return BAD;
        }
        int[] row = what == 0 ? now.lamp : now.due;
        int was = row[bay];
        row[bay] = v;
        return was;
    }

    int of(int holder, int what) {
        if (!is(holder) || !in(what, 0, 7)) {
            return BAD;
        }
        Holder h = now.holders.get(holder);
        int beside = 0;
        for (Holder b : now.beside(h)) {
            beside |= 1 << now.holders.indexOf(b);
        }
        return new int[] {h.kind.ordinal(), h.used, h.bay, h.likes, h.taken ? 1 : 0,
            h.taken ? 0 : h.kind.gain(now, h), beside, h.far()}[what];
    }

    int at(int bay, int what) {
        if (!in(bay, 0, 5) || !in(what, 0, 2)) {
            return BAD;
        }
        Holder h = now.in(bay);
        return new int[] {now.lamp[bay], now.due[bay], h == null ? NONE : now.holders.indexOf(h)}[what];
    }

    int type(int letter) {
        if (!in(letter, 32, 126)) {
            return BAD;
        }
        if (tape.length() == 80) {
            return FULL;
        }
        tape += (char) letter;
        return tape.length();
    }

    private static final String HOLDER = "[psmly] *[0-9][0-9]? *@ *[0-5] *(> *[0-5] *)?";
    private static final Pattern CRYPT = Pattern.compile(" *([0-9] *){6}(; *" + HOLDER + "(, *" + HOLDER + "){0,5})?");
    private static final Pattern BAY = Pattern.compile("@ *([0-5])");
    private static final Pattern ONE = Pattern.compile("([psmly])([0-9]+)@([0-5])(>([0-5]))?");

    /** Whether a text may go on so that it becomes a crypt, or is one. */
    private static boolean mayStand(String text) {
        Matcher m = CRYPT.matcher(text);
        if (!m.matches() && !m.hitEnd()) {
            return false;
        }
        int held = 0;
        Matcher bays = BAY.matcher(text);
        while (bays.find()) {
            int bit = 1 << bays.group(1).charAt(0) - '0';
            if ((held & bit) != 0) {
                return false;
            }
            held |= bit;
        }
        return true;
    }

    int crypt() {
        String text = tape;
        tape = "";
        for (int i = 0; i < text.length(); i++) {
            if (!mayStand(text.substring(0, i + 1))) {
                return -20 - i;
            }
        }
        if (!CRYPT.matcher(text).matches()) {
            return -20 - text.length();
        }
        String bare = text.replace(" ", "");
        State s = new State();
        s.due = now.due.clone();
        s.draw = now.draw;
        for (int b = 0; b < 6; b++) {
            s.lamp[b] = bare.charAt(b) - '0';
        }
        Matcher one = ONE.matcher(bare.substring(6));
        while (one.find()) {
            int bay = Integer.parseInt(one.group(3));
            int likes = one.group(5) == null ? bay : Integer.parseInt(one.group(5));
            s.holders.add(new Holder("psmly".indexOf(one.group(1)), Integer.parseInt(one.group(2)), bay, likes));
        }
        now = s;
        past.clear();
        return s.holders.size();
    }

    int count(int what) {
        switch (what) {
            case 0: return now.holders.size();
            case 1: return now.day;
            case 2: return now.dues;
            case 3: return now.taken();
            case 4: return now.holders.stream().mapToInt(h -> h.used).sum();
            case 5: return now.far();
            case 6: return past.size();
            default: return BAD;
        }
    }

    int days(int n) {
        if (!in(n, 1, 40)) {
            return BAD;
        }
        if (now.day > 9999 - n) {
            return FULL;
        }
        for (int d = 0; d < n; d++) {
            ahead();
            now = now.dayLater();
        }
        return now.taken();
    }

    int change(int holder, int other) {
        if (!is(holder) || !is(other) || holder == other) {
            return BAD;
        }
        ahead();
        now = now.swapped(holder, other);
        return now.holders.get(holder).bay;
    }

    int move(int holder, int bay) {
        if (!is(holder) || !in(bay, 0, 5)) {
            return BAD;
        }
        if (now.in(bay) != null) {
            return NOT;
        }
        ahead();
        int had = now.holders.get(holder).bay;
        now.holders.get(holder).bay = bay;
        return had;
    }

    int talk(int holder) {
        if (!is(holder)) {
            return BAD;
        }
        if (now.holders.get(holder).taken) {
            return NOT;
        }
        ahead();
        now.holders.get(holder).talked();
        return now.holders.get(holder).used;
    }

    int drift(int n) {
        if (!in(n, 1, 40)) {
            return BAD;
        }
        if (now.day > 9999 - n) {
            return FULL;
        }
        for (int d = 0; d < n; d++) {
            ahead();
            now = now.drifted();
        }
        return now.taken();
    }

    int undo() {
        if (past.isEmpty()) {
            return NONE;
        }
        State s = past.removeLast();
        s.lamp = now.lamp;
        s.due = now.due;
        now = s;
        return past.size();
    }

    int seed(int v) {
        if (v < 0) {
            return BAD;
        }
        int was = now.draw.intValueExact();
        now.draw = BigInteger.valueOf(v);
        return was;
    }

    int ahead(int holder, int n) {
        return !is(holder) || !in(n, 0, 99) ? BAD : now.later(n).holders.get(holder).used;
    }

    int then(int n, int what) {
        if (!in(n, 0, 99) || !in(what, 0, 1)) {
            return BAD;
        }
        State s = now.later(n);
        return what == 0 ? s.taken() : s.dues;
    }

    int takes(int holder) {
        if (!is(holder)) {
            return BAD;
        }
        for (int n = 0; n <= 99; n++) {
            if (now.later(n).holders.get(holder).taken) {
                return n;
            }
        }
        return NONE;
    }

    int cough(int what) {
        if (!in(what, 0, 1)) {
            return BAD;
        }
        for (int n = 0; n <= 99; n++) {
            State s = now.later(n);
            for (int i = 0; i < s.holders.size(); i++) {
                for (int j = i + 1; j < s.holders.size(); j++) {
                    Holder a = s.holders.get(i);
                    Holder b = s.holders.get(j);
                    if (s.beside(a).contains(b) && a.used == b.used && !a.taken && !b.taken) {
                        return what == 0 ? n : 10 * i + j;
                    }
                }
            }
        }
        return NONE;
    }

    private static void deals(List<Integer> bays, int holders, int[] dealt, List<int[]> all) {
        if (holders == 0) {
            all.add(dealt);
            return;
        }
        for (Integer bay : bays) {
            List<Integer> rest = new ArrayList<>(bays);
            rest.remove(bay);
            int[] longer = Arrays.copyOf(dealt, dealt.length + 1);
            longer[dealt.length] = bay;
            deals(rest, holders - 1, longer, all);
        }
    }

    private int least(List<Integer> bays, int k, ToIntFunction<State> worth, int sign) {
        if (k >= now.holders.size()) {
            return NONE;
        }
        List<int[]> all = new ArrayList<>();
        deals(bays, now.holders.size(), new int[0], all);
        int[] best = null;
        int least = 0;
        for (int[] deal : all) {
            int value = sign * worth.applyAsInt(now.seated(deal));
            if (best == null || value < least) {
                best = deal;
                least = value;
            }
        }
        return k == -1 ? sign * least : best[k];
    }

    private List<Integer> held() {
        List<Integer> bays = new ArrayList<>();
        now.holders.forEach(h -> bays.add(h.bay));
        bays.sort(null);
        return bays;
    }

    int content(int k) {
        return k < -1 ? BAD : least(List.of(0, 1, 2, 3, 4, 5), k, State::far, 1);
    }

    int swaps(int what) {
        if (!in(what, 0, 2)) {
            return BAD;
        }
        List<int[]> pairs = now.swaps();
        if (what == 0) {
            return pairs.size();
        }
        if (what == 1) {
            return pairs.isEmpty() ? NONE : 10 * pairs.get(0)[0] + pairs.get(0)[1];
        }
        int done = 0;
        for (State s = now; !s.swaps().isEmpty(); s = s.swapped(s.swaps().get(0)[0], s.swaps().get(0)[1])) {
            done++;
        }
        return done;
    }

    int latest(int holder, int n, int k) {
        if (!is(holder) || !in(n, 0, 40) || k < -1) {
            return BAD;
        }
        return least(held(), k, s -> s.later(n).holders.get(holder).used, 1);
    }

    int earn(int n, int k) {
        if (!in(n, 1, 40) || k < -1) {
            return BAD;
        }
        return least(held(), k, s -> s.later(n).dues - s.dues, -1);
    }

    int dark(int holder, int n) {
        if (!is(holder) || !in(n, 1, 40)) {
            return BAD;
        }
        int most = NONE;
        for (int lamp = 0; lamp <= 9; lamp++) {
            State s = now.copied();
            s.lamp[s.holders.get(holder).bay] = lamp;
            most = s.later(n).holders.get(holder).taken ? lamp : most;
        }
        return most;
    }

    int spare(int holder, int n) {
        if (!is(holder) || !in(n, 1, 40)) {
            return BAD;
        }
        State s = now.copied();
        for (int talks = 0; talks <= 20; talks++) {
            if (!s.later(n).holders.get(holder).taken) {
                return talks;
            }
            s.holders.get(holder).talked();
        }
        return NONE;
    }

    private static BigInteger chances(State s, int holder, int u, int n, int c) {
        if (n == 0) {
            return s.holders.get(holder).used >= u ? BigInteger.ONE : BigInteger.ZERO;
        }
        State talked = s.copied();
        talked.holders.get(holder).talked();
        BigInteger with = chances(talked.dayLater(), holder, u, n - 1, c);
        BigInteger without = chances(s.dayLater(), holder, u, n - 1, c);
        return with.multiply(BigInteger.valueOf(c)).add(without.multiply(BigInteger.valueOf(10 - c)));
    }

    int coughs(int holder, int u, int n, int c, int what) {
        if (!is(holder) || !in(u, 0, 99) || !in(n, 0, 6) || !in(c, 0, 10) || !in(what, 0, 1)) {
            return BAD;
        }
        BigInteger above = chances(now, holder, u, n, c);
        BigInteger below = BigInteger.TEN.pow(n);
        return (what == 0 ? above : below).divide(above.gcd(below)).intValueExact();
    }

    int image() {
        keptNow = now.copied();
        keptPast = copied(past);
        return 1;
    }

    int restore() {
        if (keptNow == null) {
            return NONE;
        }
        now = keptNow.copied();
        past = copied(keptPast);
        return 1;
    }

    private static Deque<State> copied(Deque<State> from) {
        Deque<State> to = new ArrayDeque<>();
        from.forEach(s -> to.addLast(s.copied()));
        return to;
    }

    /** The machine's own findings: real rows, and what Java says of them. */
    private static long get(Object row, int lane, int i) {
        switch (lane) {
            case 0: return ((byte[]) row)[i];
            case 1: return ((short[]) row)[i];
            case 2: return ((int[]) row)[i];
            default: return ((long[]) row)[i];
        }
    }

    private static void set(Object row, int lane, int i, long v) {
        switch (lane) {
            case 0: ((byte[]) row)[i] = (byte) v; break;
            case 1: ((short[]) row)[i] = (short) v; break;
            case 2: ((int[]) row)[i] = (int) v; break;
            default: ((long[]) row)[i] = v; break;
        }
    }

    private static int found(RuntimeException e) {
        if (e instanceof NullPointerException) {
            return NULL;
        }
        if (e instanceof ClassCastException || e instanceof ArrayStoreException) {
            return CAST;
        }
        if (e instanceof IndexOutOfBoundsException) {
            return INDEX;
        }
        if (e instanceof NegativeArraySizeException) {
            return SIZE;
        }
        throw e;
    }

    private static void need(Object row) {
        if (row == null) {
            throw new NullPointerException();
        }
    }

    private long[] taken(int sheet, int lane, int i, int n) {
        need(sheets[sheet]);
        long[] items = new long[n];
        for (int x = 0; x < n; x++) {
            items[x] = get(sheets[sheet], lane, i + x);
        }
        return items;
    }

    int looks(int holder, int sheet, int lane, int i, int n, int what) {
        if (!is(holder) || !in(sheet, 0, 3) || !in(lane, 0, 3) || !in(n, 1, 8) || !in(what, 0, 2)) {
            return BAD;
        }
        long[] row;
        try {
            row = taken(sheet, lane, i, n);
        } catch (RuntimeException e) {
            return found(e);
        }
        int kinds = 0;
        for (Kind kind : Kind.values()) {
            State s = now.copied();
            s.holders.get(holder).kind = kind;
            kinds += goes(s, holder, row) ? 1 << kind.ordinal() : 0;
        }
        int least = NONE;
        int many = 0;
        for (int used = 99; used >= 0; used--) {
            State s = now.copied();
            s.holders.get(holder).used = used;
            s.holders.get(holder).taken = used == 99;
            if (goes(s, holder, row)) {
                least = used;
                many++;
            }
        }
        return new int[] {kinds, many, least}[what];
    }

    private static boolean goes(State s, int holder, long[] row) {
        for (int d = 0; d < row.length; d++) {
            if (s.later(d + 1).holders.get(holder).used != row[d]) {
                return false;
            }
        }
        return true;
    }

    int film(int holder, int n, int sheet, int lane, int i) {
        if (!is(holder) || !in(n, 1, 24) || !in(sheet, 0, 3) || !in(lane, 0, 3)) {
            return BAD;
        }
        try {
            taken(sheet, lane, i, n);
        } catch (RuntimeException e) {
            return found(e);
        }
        for (int d = 0; d < n; d++) {
            set(sheets[sheet], lane, i + d, now.later(d + 1).holders.get(holder).used);
        }
        return n;
    }

    int sheet(int sheet, int lane, int n) {
        if (!in(sheet, 0, 3) || !in(lane, 0, 3) || n > 24) {
            return BAD;
        }
        try {
            sheets[sheet] = lane == 0 ? new byte[n] : lane == 1 ? new short[n] : lane == 2 ? new int[n] : new long[n];
        } catch (RuntimeException e) {
            return found(e);
        }
        return n;
    }

    int drop(int sheet) {
        if (!in(sheet, 0, 3)) {
            return BAD;
        }
        if (sheets[sheet] == null) {
            return NULL;
        }
        int had = java.lang.reflect.Array.getLength(sheets[sheet]);
        sheets[sheet] = null;
        return had;
    }

    int item(int sheet, int lane, int i, long v) {
        if (!in(sheet, 0, 3) || !in(lane, 0, 3)) {
            return BAD;
        }
        try {
            need(sheets[sheet]);
            set(sheets[sheet], lane, i, v);
        } catch (RuntimeException e) {
            return found(e);
        }
        return 1;
    }

    int copy(int from, int i, int to, int j, int n) {
        if (!in(from, 0, 3) || !in(to, 0, 3)) {
            return BAD;
        }
        try {
            System.arraycopy(sheets[from], i, sheets[to], j, n);
        } catch (RuntimeException e) {
            return found(e);
        }
        return n;
    }
}
