/** A crypt of six bays that are let by subscription: ../shared/DOC.md says what each call answers. */
public final class CryptBays {
    public static final int BAD = -1, NOT = -2, FULL = -3, NONE = -4, NULL = -11, CAST = -12, INDEX = -13, SIZE = -14;

    private static final int BAYS = 6;
    private static final int NOBODY = -1;
    private static final int TAKEN_UP = 99;
    private static final int LESS_BY_TALK = 5;
    private static final int LAST_DAY = 9999;
    private static final int FORETOLD_DAYS = 99;
    private static final int DONE_DAYS = 40;
    private static final int COUGH_DAYS = 6;
    private static final int LOOK_DAYS = 8;
    private static final int MOST_TALKS = 20;
    private static final int MOST_LAMP = 9;
    private static final int MOST_DUE = 99;
    private static final int KNOWN_DEEDS = 8;
    private static final int TAPE_LETTERS = 80;
    private static final int SHEETS = 4;
    private static final int LANES = 4;
    private static final int SHEET_ITEMS = 24;
    private static final int FAULT = -20;
    private static final int ALL_BAYS = 63;
    private static final int LOWEST_31_BITS = 0x7fffffff;

    private static final int PLAIN = 0, SHY = 1, SOLICITOR = 3, YOUNG = 4;

    /** Six holders in six bays sit in 720 ways, and so do five: no deal has more. */
    private static final int MOST_WAYS = 720;
    /** Each swap brings two holders nearer by 1 at least, and all are 30 away at most. */
    private static final int MOST_SWAPS = 15;

    private final Scene now = new Scene();
    private final Past past = new Past();
    private final Scene foreseen = new Scene();
    private final Scene imageOfNow = new Scene();
    private final Past imageOfPast = new Past();
    private boolean hasImage;
    private final Deal deal = new Deal();
    private final Tape tape = new Tape();
    private final Sheet[] sheets = new Sheet[SHEETS];

    public CryptBays() {
        for (int s = 0; s < SHEETS; s++) {
            sheets[s] = new Sheet();
        }
    }

    // ---- 1 bays, holders

    public int holder(int kind, int used, int likes) {
        if (!within(kind, PLAIN, YOUNG) || !within(used, 0, TAKEN_UP) || !isBay(likes)) {
            return BAD;
        }
        int free = now.lowestFreeBay();
        if (free < 0) {
            return FULL;
        }
        past.forget();
        now.enter(kind, used, free, likes);
        return now.count - 1;
    }

    public int rule(int bay, int what, int v) {
        if (!isBay(bay) || !within(what, 0, 1) || !within(v, 0, what == 0 ? MOST_LAMP : MOST_DUE)) {
            return BAD;
        }
        int[] told = what == 0 ? now.lamp : now.due;
        int was = told[bay];
        told[bay] = v;
        return was;
    }

    public int of(int holder, int what) {
        if (!now.has(holder)) {
            return BAD;
        }
        switch (what) {
            case 0: return now.kind[holder];
            case 1: return now.used[holder];
            case 2: return now.bay[holder];
            case 3: return now.likes[holder];
            case 4: return now.hasTaken(holder) ? 1 : 0;
            case 5: return now.hasTaken(holder) ? 0 : now.gainOf(holder);
            case 6: return now.besideSet(holder);
            case 7: return now.farFrom(holder, now.bay[holder]);
            default: return BAD;
        }
    }

    public int at(int bay, int what) {
        if (!isBay(bay)) {
            return BAD;
        }
        switch (what) {
            case 0: return now.lamp[bay];
            case 1: return now.due[bay];
            case 2: return now.who[bay] == NOBODY ? NONE : now.who[bay];
            default: return BAD;
        }
    }

    public int type(int letter) {
        if (!within(letter, 32, 126)) {
            return BAD;
        }
        return tape.write((char) letter) ? tape.length : FULL;
    }

    public int crypt() {
        // Read into the other scene first: a fault must leave all as it is.
        foreseen.become(now);
        foreseen.clear();
        boolean right = tape.readInto(foreseen);
        int place = tape.place;
        tape.clear();
        if (!right) {
            return FAULT - place;
        }
        now.become(foreseen);
        past.forget();
        return now.count;
    }

    public int count(int what) {
        switch (what) {
            case 0: return now.count;
            case 1: return now.day;
            case 2: return now.dues;
            case 3: return now.takenSet();
            case 4: return now.usedTogether();
            case 5: return now.farTogether();
            case 6: return past.known;
            default: return BAD;
        }
    }

    // ---- what is done

    public int days(int n) {
        return pass(n, false);
    }

    public int change(int holder, int other) {
        if (!now.has(holder) || !now.has(other) || holder == other) {
            return BAD;
        }
        past.keep(now);
        now.swapBays(holder, other);
        return now.bay[holder];
    }

    public int move(int holder, int bay) {
        if (!now.has(holder) || !isBay(bay)) {
            return BAD;
        }
        if (now.who[bay] != NOBODY) {
            return NOT;
        }
        past.keep(now);
        int had = now.bay[holder];
        now.who[had] = NOBODY;
        now.seat(holder, bay);
        return had;
    }

    public int talk(int holder) {
        if (!now.has(holder)) {
            return BAD;
        }
        if (now.hasTaken(holder)) {
            return NOT;
        }
        past.keep(now);
        now.talkTo(holder);
        return now.used[holder];
    }

    public int drift(int n) {
        return pass(n, true);
    }

    public int undo() {
        if (past.known == 0) {
            return NONE;
        }
        past.giveLatest(now);
        return past.known;
    }

    public int seed(int v) {
        if (v < 0) {
            return BAD;
        }
        int was = now.draw;
        now.draw = v;
        return was;
    }

    // ---- 2 foretold

    public int ahead(int holder, int n) {
        if (!now.has(holder) || !within(n, 0, FORETOLD_DAYS)) {
            return BAD;
        }
        foresee(n);
        return foreseen.used[holder];
    }

    public int then(int n, int what) {
        if (!within(n, 0, FORETOLD_DAYS) || !within(what, 0, 1)) {
            return BAD;
        }
        foresee(n);
        return what == 0 ? foreseen.takenSet() : foreseen.dues;
    }

    public int takes(int holder) {
        if (!now.has(holder)) {
            return BAD;
        }
        foreseen.become(now);
        for (int d = 0; d <= FORETOLD_DAYS; d++) {
            if (foreseen.hasTaken(holder)) {
                return d;
            }
            foreseen.passDay();
        }
        return NONE;
    }

    public int cough(int what) {
        if (!within(what, 0, 1)) {
            return BAD;
        }
        foreseen.become(now);
        for (int d = 0; d <= FORETOLD_DAYS; d++) {
            int pair = foreseen.firstAlike();
            if (pair != NONE) {
                return what == 0 ? d : pair;
            }
            foreseen.passDay();
        }
        return NONE;
    }

    public int content(int k) {
        if (k < -1) {
            return BAD;
        }
        if (k >= now.count) {
            return NONE;
        }
        dealNearest();
        return deal.answer(k);
    }

    public int swaps(int what) {
        switch (what) {
            case 0: return now.countSwaps();
            case 1: return now.firstSwap();
            case 2: return swapsTillCalm();
            default: return BAD;
        }
    }

    public int latest(int holder, int n, int k) {
        if (!now.has(holder) || !within(n, 0, DONE_DAYS) || k < -1) {
            return BAD;
        }
        if (k >= now.count) {
            return NONE;
        }
        dealLeastUsed(holder, n);
        return deal.answer(k);
    }

    public int earn(int n, int k) {
        if (!within(n, 1, DONE_DAYS) || k < -1) {
            return BAD;
        }
        if (k >= now.count) {
            return NONE;
        }
        dealMostDues(n);
        return deal.answer(k);
    }

    public int dark(int holder, int n) {
        if (!now.has(holder) || !within(n, 1, DONE_DAYS)) {
            return BAD;
        }
        for (int lamp = MOST_LAMP; lamp >= 0; lamp--) {
            foreseen.become(now);
            foreseen.lamp[now.bay[holder]] = lamp;
            foreseen.passDays(n);
            if (foreseen.hasTaken(holder)) {
                return lamp;
            }
        }
        return NONE;
    }

    public int spare(int holder, int n) {
        if (!now.has(holder) || !within(n, 1, DONE_DAYS)) {
            return BAD;
        }
        for (int talks = 0; talks <= MOST_TALKS; talks++) {
            foreseen.become(now);
            for (int t = 0; t < talks; t++) {
                foreseen.talkTo(holder);
            }
            foreseen.passDays(n);
            if (!foreseen.hasTaken(holder)) {
                return talks;
            }
        }
        return NONE;
    }

    public int coughs(int holder, int u, int n, int c, int what) {
        if (!now.has(holder) || !within(u, 0, TAKEN_UP) || !within(n, 0, COUGH_DAYS)
                || !within(c, 0, 10) || !within(what, 0, 1)) {
            return BAD;
        }
        int all = 1;
        for (int d = 0; d < n; d++) {
            all *= 10;
        }
        int such = 0;
        for (int path = 0; path < 1 << n; path++) {
            such += weightIfUsed(holder, u, n, c, path);
        }
        int shared = Math.max(1, commonDivisor(all, such));
        return what == 0 ? such / shared : all / shared;
    }

    public int image() {
        imageOfNow.become(now);
        imageOfPast.become(past);
        hasImage = true;
        return 1;
    }

    public int restore() {
        if (!hasImage) {
            return NONE;
        }
        now.become(imageOfNow);
        past.become(imageOfPast);
        return 1;
    }

    // ---- 3 sheets

    public int looks(int holder, int sheet, int lane, int i, int n, int what) {
        if (!now.has(holder) || !isSheet(sheet) || !isLane(lane) || !within(n, 1, LOOK_DAYS) || !within(what, 0, 2)) {
            return BAD;
        }
        int refused = sheets[sheet].refusal(lane, i, n);
        if (refused < 0) {
            return refused;
        }
        if (what == 0) {
            return kindsBy(holder, sheets[sheet], i, n);
        }
        return numbersBy(holder, sheets[sheet], i, n, what == 2);
    }

    public int film(int holder, int n, int sheet, int lane, int i) {
        if (!now.has(holder) || !within(n, 1, SHEET_ITEMS) || !isSheet(sheet) || !isLane(lane)) {
            return BAD;
        }
        int refused = sheets[sheet].refusal(lane, i, n);
        if (refused < 0) {
            return refused;
        }
        foreseen.become(now);
        for (int d = 0; d < n; d++) {
            foreseen.passDay();
            sheets[sheet].put(i + d, foreseen.used[holder]);
        }
        return n;
    }

    public int sheet(int sheet, int lane, int n) {
        if (!isSheet(sheet) || !isLane(lane) || n > SHEET_ITEMS) {
            return BAD;
        }
        if (n < 0) {
            return SIZE;
        }
        sheets[sheet].lay(lane, n);
        return n;
    }

    public int drop(int sheet) {
        if (!isSheet(sheet)) {
            return BAD;
        }
        if (sheets[sheet].isMissing()) {
            return NULL;
        }
        return sheets[sheet].takeAway();
    }

    public int item(int sheet, int lane, int i, long v) {
        if (!isSheet(sheet) || !isLane(lane)) {
            return BAD;
        }
        int refused = sheets[sheet].refusal(lane, i, 1);
        if (refused < 0) {
            return refused;
        }
        sheets[sheet].put(i, v);
        return 1;
    }

    public int copy(int from, int i, int to, int j, int n) {
        if (!isSheet(from) || !isSheet(to)) {
            return BAD;
        }
        Sheet source = sheets[from];
        Sheet target = sheets[to];
        if (source.isMissing() || target.isMissing()) {
            return NULL;
        }
        int refused = source.refusal(target.lane, i, n);
        if (refused == 0) {
            refused = target.refusal(source.lane, j, n);
        }
        if (refused < 0) {
            return refused;
        }
        System.arraycopy(source.items, i, target.items, j, n);
        return n;
    }

    // ---- what the calls share

    private static boolean within(int v, int least, int most) {
        return v >= least && v <= most;
    }

    private static boolean isBay(int bay) {
        return within(bay, 0, BAYS - 1);
    }

    private static boolean isSheet(int sheet) {
        return within(sheet, 0, SHEETS - 1);
    }

    private static boolean isLane(int lane) {
        return within(lane, 0, LANES - 1);
    }

    private static int commonDivisor(int a, int b) {
        // Euclid's remainders at least halve every second step: 64 are more than an int needs.
        for (int step = 0; step < 64 && b != 0; step++) {
            int rest = a % b;
            a = b;
            b = rest;
        }
        return a;
    }

    private int pass(int n, boolean drifting) {
        if (!within(n, 1, DONE_DAYS)) {
            return BAD;
        }
        if (now.day + n > LAST_DAY) {
            return FULL;
        }
        for (int d = 0; d < n; d++) {
            past.keep(now);
            if (drifting) {
                now.drawTalk();
            }
            now.passDay();
        }
        return now.takenSet();
    }

    private void foresee(int n) {
        foreseen.become(now);
        foreseen.passDays(n);
    }

    private int swapsTillCalm() {
        foreseen.become(now);
        for (int done = 0; done < MOST_SWAPS; done++) {
            int pair = foreseen.firstSwap();
            if (pair == NONE) {
                return done;
            }
            foreseen.swapBays(pair / 10, pair % 10);
        }
        return MOST_SWAPS;
    }

    private void dealNearest() {
        deal.begin(now.count, ALL_BAYS);
        for (int way = 0; way < MOST_WAYS; way++) {
            int far = 0;
            for (int h = 0; h < now.count; h++) {
                far += now.farFrom(h, deal.bay[h]);
            }
            if (way == 0 || far < deal.worth) {
                deal.keep(far);
            }
            if (!deal.next()) {
                break;
            }
        }
    }

    private void dealLeastUsed(int holder, int n) {
        deal.begin(now.count, now.heldBays());
        int least = TAKEN_UP + 1;
        for (int way = 0; way < MOST_WAYS; way++) {
            int used = usedIfDealt(holder, n, least);
            if (used < least) {
                least = used;
                deal.keep(used);
            }
            if (!deal.next()) {
                break;
            }
        }
    }

    /** A way that can't stay below the least so far need not be told to its end: some number not below it is enough. */
    private int usedIfDealt(int holder, int n, int least) {
        foreseen.become(now);
        foreseen.seatAll(deal.bay);
        for (int left = n; left > 0; left--) {
            int atLeast = foreseen.usedAtLeast(holder, left);
            if (atLeast >= least) {
                return atLeast;
            }
            foreseen.passDay();
        }
        return foreseen.used[holder];
    }

    private void dealMostDues(int n) {
        deal.begin(now.count, now.heldBays());
        int most = -1;
        for (int way = 0; way < MOST_WAYS; way++) {
            int dues = duesIfDealt(n, most);
            if (dues > most) {
                most = dues;
                deal.keep(dues);
            }
            if (!deal.next()) {
                break;
            }
        }
    }

    /** A way that can't come above the most so far need not be told to its end: some number not above it is enough. */
    private int duesIfDealt(int n, int most) {
        foreseen.become(now);
        foreseen.seatAll(deal.bay);
        foreseen.dues = 0;
        for (int left = n; left > 0; left--) {
            int atMost = foreseen.dues + foreseen.duesAtMost(left);
            if (atMost <= most) {
                return atMost;
            }
            foreseen.passDay();
        }
        return foreseen.dues;
    }

    /** How many of 10 to the n go by this path (a bit a day: talked to or not), if it ends with u or more. */
    private int weightIfUsed(int holder, int u, int n, int c, int path) {
        foreseen.become(now);
        int weight = 1;
        for (int d = 0; d < n && weight > 0; d++) {
            if ((path >> d & 1) == 1) {
                weight *= c;
                foreseen.talkTo(holder);
            } else {
                weight *= 10 - c;
            }
            foreseen.passDay();
        }
        return foreseen.used[holder] >= u ? weight : 0;
    }

    private int kindsBy(int holder, Sheet row, int i, int n) {
        int kinds = 0;
        for (int kind = PLAIN; kind <= YOUNG; kind++) {
            foreseen.become(now);
            foreseen.kind[holder] = kind;
            if (goesBy(holder, row, i, n)) {
                kinds |= 1 << kind;
            }
        }
        return kinds;
    }

    private int numbersBy(int holder, Sheet row, int i, int n, boolean leastOnly) {
        int numbers = 0;
        for (int used = 0; used <= TAKEN_UP; used++) {
            foreseen.become(now);
            foreseen.used[holder] = used;
            if (goesBy(holder, row, i, n)) {
                if (leastOnly) {
                    return used;
                }
                numbers++;
            }
        }
        return leastOnly ? NONE : numbers;
    }

    private boolean goesBy(int holder, Sheet row, int i, int n) {
        for (int d = 0; d < n; d++) {
            foreseen.passDay();
            if (row.items[i + d] != foreseen.used[holder]) {
                return false;
            }
        }
        return true;
    }

    /** Bays, holders, the day, dues and the draw: now, as foretold, or as an image. Who is used by 99 has taken it up. */
    static final class Scene {
        final int[] kind = new int[BAYS];
        final int[] used = new int[BAYS];
        final int[] bay = new int[BAYS];
        final int[] likes = new int[BAYS];
        final int[] who = new int[BAYS];
        final int[] lamp = new int[BAYS];
        final int[] due = new int[BAYS];
        /** Of one day only; it stands here so that a day makes no new row. */
        final int[] gain = new int[BAYS];
        int count;
        int day;
        int dues;
        int draw = 1;

        Scene() {
            for (int b = 0; b < BAYS; b++) {
                who[b] = NOBODY;
                lamp[b] = 3;
                due[b] = 20;
            }
        }

        void become(Scene other) {
            System.arraycopy(other.kind, 0, kind, 0, BAYS);
            System.arraycopy(other.used, 0, used, 0, BAYS);
            System.arraycopy(other.bay, 0, bay, 0, BAYS);
            System.arraycopy(other.likes, 0, likes, 0, BAYS);
            System.arraycopy(other.who, 0, who, 0, BAYS);
            System.arraycopy(other.lamp, 0, lamp, 0, BAYS);
            System.arraycopy(other.due, 0, due, 0, BAYS);
            count = other.count;
            day = other.day;
            dues = other.dues;
            draw = other.draw;
        }

        /** Nobody, day 0, no dues yet; what was told of bays and the draw stay. */
        void clear() {
            for (int b = 0; b < BAYS; b++) {
                who[b] = NOBODY;
            }
            count = 0;
            day = 0;
            dues = 0;
        }

        boolean has(int h) {
            return h >= 0 && h < count;
        }

        boolean hasTaken(int h) {
            return used[h] >= TAKEN_UP;
        }

        int lowestFreeBay() {
            for (int b = 0; b < BAYS; b++) {
                if (who[b] == NOBODY) {
                    return b;
                }
            }
            return -1;
        }

        void enter(int kindOf, int usedBy, int inBay, int likesBay) {
            if (count >= BAYS) {
                return;
            }
            kind[count] = kindOf;
            used[count] = usedBy;
            likes[count] = likesBay;
            seat(count, inBay);
            count++;
        }

        void seat(int h, int b) {
            bay[h] = b;
            who[b] = h;
        }

        void seatAll(int[] bays) {
            for (int b = 0; b < BAYS; b++) {
                who[b] = NOBODY;
            }
            for (int h = 0; h < count; h++) {
                seat(h, bays[h]);
            }
        }

        void swapBays(int h, int other) {
            int had = bay[h];
            seat(h, bay[other]);
            seat(other, had);
        }

        int heldBays() {
            int set = 0;
            for (int h = 0; h < count; h++) {
                set |= 1 << bay[h];
            }
            return set;
        }

        int takenSet() {
            int set = 0;
            for (int h = 0; h < count; h++) {
                if (hasTaken(h)) {
                    set |= 1 << h;
                }
            }
            return set;
        }

        int whoIn(int b) {
            return b >= 0 && b < BAYS ? who[b] : NOBODY;
        }

        int besideSet(int h) {
            int left = whoIn(bay[h] - 1);
            int right = whoIn(bay[h] + 1);
            return (left == NOBODY ? 0 : 1 << left) | (right == NOBODY ? 0 : 1 << right);
        }

        /** How many (1 or 0) in a bay have taken it up; a bay beyond the row has nobody. */
        int takenIn(int b) {
            int h = whoIn(b);
            return h != NOBODY && hasTaken(h) ? 1 : 0;
        }

        int notTakenIn(int b) {
            int h = whoIn(b);
            return h != NOBODY && !hasTaken(h) ? 1 : 0;
        }

        int gainOf(int h) {
            int b = bay[h];
            int plain = 10 - lamp[b];
            int kindOf = kind[h];
            if (kindOf == PLAIN) {
                return plain;
            }
            if (kindOf == SHY || kindOf == SOLICITOR) {
                int shy = Math.max(0, plain - notTakenIn(b - 1) - notTakenIn(b + 1));
                return kindOf == SHY ? shy : Math.min(4, shy);
            }
            int miss = b == 0 || b == BAYS - 1 ? plain + 3 : plain;
            return kindOf == YOUNG ? miss + 2 * (takenIn(b - 1) + takenIn(b + 1)) : miss;
        }

        void passDay() {
            // All gains first: a day goes by how all is ahead of it.
            for (int h = 0; h < count; h++) {
                if (hasTaken(h)) {
                    gain[h] = 0;
                } else {
                    gain[h] = gainOf(h);
                    dues += due[bay[h]];
                }
            }
            for (int h = 0; h < count; h++) {
                used[h] = Math.min(TAKEN_UP, used[h] + gain[h]);
            }
            day++;
        }

        void passDays(int n) {
            for (int d = 0; d < n; d++) {
                passDay();
            }
        }

        // While days pass, others beside one only take it up: nobody's gain falls. So the gain of now bounds what comes.

        int usedAtLeast(int h, int n) {
            return hasTaken(h) ? TAKEN_UP : Math.min(TAKEN_UP, used[h] + n * gainOf(h));
        }

        int duesAtMost(int n) {
            int sum = 0;
            for (int h = 0; h < count; h++) {
                if (!hasTaken(h)) {
                    int gainOfNow = gainOf(h);
                    int days = gainOfNow > 0 ? (TAKEN_UP - used[h] + gainOfNow - 1) / gainOfNow : n;
                    sum += due[bay[h]] * Math.min(n, days);
                }
            }
            return sum;
        }

        void talkTo(int h) {
            if (!hasTaken(h)) {
                used[h] = Math.max(0, used[h] - LESS_BY_TALK);
            }
        }

        void drawTalk() {
            draw = (draw * 1103515245 + 12345) & LOWEST_31_BITS;
            if (draw / 65536 % 3 == 0 && count > 0) {
                talkTo(draw / 128 % count);
            }
        }

        int usedTogether() {
            int sum = 0;
            for (int h = 0; h < count; h++) {
                sum += used[h];
            }
            return sum;
        }

        int farFrom(int h, int b) {
            return Math.abs(b - likes[h]);
        }

        int farTogether() {
            int sum = 0;
            for (int h = 0; h < count; h++) {
                sum += farFrom(h, bay[h]);
            }
            return sum;
        }

        boolean wouldSwap(int h, int other) {
            return farFrom(h, bay[other]) < farFrom(h, bay[h]) && farFrom(other, bay[h]) < farFrom(other, bay[other]);
        }

        int countSwaps() {
            int pairs = 0;
            for (int h = 0; h < count; h++) {
                for (int other = h + 1; other < count; other++) {
                    if (wouldSwap(h, other)) {
                        pairs++;
                    }
                }
            }
            return pairs;
        }

        int firstSwap() {
            for (int h = 0; h < count; h++) {
                for (int other = h + 1; other < count; other++) {
                    if (wouldSwap(h, other)) {
                        return 10 * h + other;
                    }
                }
            }
            return NONE;
        }

        /** The first two beside one another who are used alike; two alike have taken it up both or neither. */
        int firstAlike() {
            for (int h = 0; h < count; h++) {
                for (int other = h + 1; other < count; other++) {
                    if (used[h] == used[other] && !hasTaken(h) && Math.abs(bay[h] - bay[other]) == 1) {
                        return 10 * h + other;
                    }
                }
            }
            return NONE;
        }
    }

    /** What a deed that is undone brings back; what is told of bays stays as it was told. */
    static final class Mark {
        final int[] used = new int[BAYS];
        final int[] bay = new int[BAYS];
        int day;
        int dues;
        int draw;

        void note(Scene scene) {
            System.arraycopy(scene.used, 0, used, 0, BAYS);
            System.arraycopy(scene.bay, 0, bay, 0, BAYS);
            day = scene.day;
            dues = scene.dues;
            draw = scene.draw;
        }

        void give(Scene scene) {
            System.arraycopy(used, 0, scene.used, 0, BAYS);
            scene.seatAll(bay);
            scene.day = day;
            scene.dues = dues;
            scene.draw = draw;
        }

        void become(Mark other) {
            System.arraycopy(other.used, 0, used, 0, BAYS);
            System.arraycopy(other.bay, 0, bay, 0, BAYS);
            day = other.day;
            dues = other.dues;
            draw = other.draw;
        }
    }

    /** The latest deeds, in a ring: one more than it holds goes where the oldest stood. */
    static final class Past {
        final Mark[] marks = new Mark[KNOWN_DEEDS];
        int next;
        int known;

        Past() {
            for (int m = 0; m < KNOWN_DEEDS; m++) {
                marks[m] = new Mark();
            }
        }

        void keep(Scene scene) {
            marks[next].note(scene);
            next = (next + 1) % KNOWN_DEEDS;
            known = Math.min(KNOWN_DEEDS, known + 1);
        }

        void giveLatest(Scene scene) {
            if (known > 0) {
                next = (next + KNOWN_DEEDS - 1) % KNOWN_DEEDS;
                known--;
                marks[next].give(scene);
            }
        }

        void forget() {
            known = 0;
        }

        void become(Past other) {
            for (int m = 0; m < KNOWN_DEEDS; m++) {
                marks[m].become(other.marks[m]);
            }
            next = other.next;
            known = other.known;
        }
    }

    /** Ways to seat holders in a set of bays, in rising order of the bays of holder 0, then 1; and the best one so far. */
    static final class Deal {
        final int[] bay = new int[BAYS];
        final int[] best = new int[BAYS];
        int worth;
        private int free;
        private int count;

        void begin(int holders, int bays) {
            count = holders;
            free = bays;
            fillFrom(0);
        }

        boolean next() {
            for (int h = count - 1; h >= 0; h--) {
                free |= 1 << bay[h];
                int higher = freeFrom(bay[h] + 1);
                if (higher < BAYS) {
                    give(h, higher);
                    fillFrom(h + 1);
                    return true;
                }
            }
            return false;
        }

        void keep(int value) {
            worth = value;
            System.arraycopy(bay, 0, best, 0, BAYS);
        }

        int answer(int k) {
            if (k < 0) {
                return worth;
            }
            return k < count ? best[k] : NONE;
        }

        private void fillFrom(int first) {
            for (int h = first; h < count; h++) {
                int lowest = freeFrom(0);
                if (lowest < BAYS) {
                    give(h, lowest);
                }
            }
        }

        private void give(int h, int b) {
            bay[h] = b;
            free &= ~(1 << b);
        }

        private int freeFrom(int b) {
            while (b < BAYS && (free >> b & 1) == 0) {
                b++;
            }
            return b;
        }
    }

    /** The tape, and its reading as a crypt: place is the letter that is next, and where a fault is found. */
    static final class Tape {
        private final char[] letters = new char[TAPE_LETTERS];
        int length;
        int place;

        boolean write(char letter) {
            if (length >= TAPE_LETTERS) {
                return false;
            }
            letters[length] = letter;
            length++;
            return true;
        }

        void clear() {
            length = 0;
        }

        boolean readInto(Scene scene) {
            place = 0;
            if (!readLamps(scene)) {
                return false;
            }
            if (takesSign(';') && !readHolders(scene)) {
                return false;
            }
            skipBlanks();
            return place == length;
        }

        private boolean readLamps(Scene scene) {
            for (int b = 0; b < BAYS; b++) {
                int lamp = readDigit(MOST_LAMP);
                if (lamp < 0) {
                    return false;
                }
                scene.lamp[b] = lamp;
            }
            return true;
        }

        /** Behind the sixth no comma is taken, so that it is found to be the fault. */
        private boolean readHolders(Scene scene) {
            for (int h = 0; h < BAYS; h++) {
                if (!readOneHolder(scene)) {
                    return false;
                }
                if (h == BAYS - 1 || !takesSign(',')) {
                    return true;
                }
            }
            return true;
        }

        private boolean readOneHolder(Scene scene) {
            int kind = readKind();
            if (kind < 0) {
                return false;
            }
            int used = readNumber();
            if (used < 0 || !takesSign('@')) {
                return false;
            }
            int bay = readFreeBay(scene);
            if (bay < 0) {
                return false;
            }
            int likes = takesSign('>') ? readDigit(BAYS - 1) : bay;
            if (likes < 0) {
                return false;
            }
            scene.enter(kind, used, bay, likes);
            return true;
        }

        private int readKind() {
            skipBlanks();
            int kind = place < length ? "psmly".indexOf(letters[place]) : -1;
            if (kind >= 0) {
                place++;
            }
            return kind;
        }

        private int readNumber() {
            int number = readDigit(9);
            if (number >= 0 && digitHere(9) >= 0) {
                number = 10 * number + digitHere(9);
                place++;
            }
            return number;
        }

        private int readFreeBay(Scene scene) {
            skipBlanks();
            int bay = digitHere(BAYS - 1);
            if (bay < 0 || scene.whoIn(bay) != NOBODY) {
                return -1;
            }
            place++;
            return bay;
        }

        private int readDigit(int most) {
            skipBlanks();
            int digit = digitHere(most);
            if (digit >= 0) {
                place++;
            }
            return digit;
        }

        private int digitHere(int most) {
            int digit = place < length ? letters[place] - '0' : -1;
            return digit >= 0 && digit <= most ? digit : -1;
        }

        private boolean takesSign(char sign) {
            skipBlanks();
            if (place < length && letters[place] == sign) {
                place++;
                return true;
            }
            return false;
        }

        private void skipBlanks() {
            while (place < length && letters[place] == ' ') {
                place++;
            }
        }
    }

    /** A row of items or nothing; items of every lane are held as longs that are cut to the lane's bits. */
    static final class Sheet {
        final long[] items = new long[SHEET_ITEMS];
        int lane;
        private int size = -1;

        boolean isMissing() {
            return size < 0;
        }

        void lay(int laneOf, int n) {
            lane = laneOf;
            size = n;
            for (int i = 0; i < SHEET_ITEMS; i++) {
                items[i] = 0;
            }
        }

        int takeAway() {
            int had = size;
            size = -1;
            return had;
        }

        /** What the machine would find wrong with n items from i on; 0 if nothing. */
        int refusal(int laneAsked, int i, int n) {
            if (isMissing()) {
                return NULL;
            }
            if (lane != laneAsked) {
                return CAST;
            }
            return i < 0 || n < 0 || i > size - n ? INDEX : 0;
        }

        void put(int i, long v) {
            items[i] = cut(v);
        }

        private long cut(long v) {
            switch (lane) {
                case 0: return (byte) v;
                case 1: return (short) v;
                case 2: return (int) v;
                default: return v;
            }
        }
    }
}
