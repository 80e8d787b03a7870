import java.util.Random;

/** Runs of many calls, drawn by fixed seeds, whose answers must be those of the model. */
public final class ModelTest {
    private static final int RUNS = 1500;
    private static final int DEALT_RUNS = 600;
    private static final int CALLS = 512;
    private static final int[] ODD = {Integer.MIN_VALUE, Integer.MAX_VALUE, -2, -1, 0, 1, 6, 25, 41, 100, 1000};

    private final Check check = new Check();
    private Random random;
    private CryptBays x;
    private Model m;
    private int calls;

    public static void main(String[] args) {
        ModelTest test = new ModelTest();
        int runs = args.length > 0 ? Integer.parseInt(args[0]) : RUNS;
        int dealtRuns = args.length > 1 ? Integer.parseInt(args[1]) : DEALT_RUNS;
        for (int run = 0; run < runs && !test.check.anyWrong(); run++) {
            test.run(run);
        }
        for (int run = 0; run < dealtRuns && !test.check.anyWrong(); run++) {
            test.dealtRun(run);
        }
        test.check.done();
    }

    private void run(int run) {
        check.part("run " + run);
        random = new Random(9137L * run + 5);
        x = new CryptBays();
        m = new Model();
        calls = 0;
        if (random.nextInt(4) != 0) {
            text(goodText());
        }
        while (calls < CALLS - 100) {
            step();
        }
        all();
    }

    /** Ways of seating with uneven lamps and dues, where holders take it up on the way. */
    private void dealtRun(int run) {
        check.part("dealt run " + run);
        random = new Random(77L * run + 3);
        x = new CryptBays();
        m = new Model();
        calls = 0;
        text(goodText());
        for (int b = 0; b < 6; b++) {
            int v = random.nextInt(100);
            due("rule", x.rule(b, 1, v), m.rule(b, 1, v), b, 1, v);
        }
        int n = 1 + random.nextInt(random.nextBoolean() ? 10 : 40);
        int h = random.nextInt(6);
        for (int k = -1; k < 6; k += 1 + random.nextInt(4)) {
            due("latest", x.latest(h, n, k), m.latest(h, n, k), h, n, k);
            due("earn", x.earn(n, k), m.earn(n, k), n, k);
        }
    }

    private void due(String name, long got, long want, long... args) {
        calls++;
        check.due("call " + calls + ", " + name + java.util.Arrays.toString(args), got, want);
    }

    /** A number that is mostly within the bounds, sometimes just outside, sometimes far. */
    private int pick(int from, int to) {
        int way = random.nextInt(40);
        if (way == 0) {
            return ODD[random.nextInt(ODD.length)];
        }
        if (way == 1) {
            return random.nextBoolean() ? from - 1 : to + 1;
        }
        if (way < 6) {
            return random.nextBoolean() ? from : to;
        }
        return from + random.nextInt(to - from + 1);
    }

    /** Mostly a holder that there is. */
    private int who() {
        return pick(0, Math.max(0, m.count(0) - 1));
    }

    private int many(int most) {
        return random.nextInt(3) == 0 ? pick(1, most) : 1 + random.nextInt(3);
    }

    private String goodText() {
        StringBuilder text = new StringBuilder();
        boolean bright = random.nextInt(3) == 0;
        for (int b = 0; b < 6; b++) {
            blank(text).append(bright ? 7 + random.nextInt(3) : random.nextInt(10));
        }
        int holders = random.nextInt(7);
        int held = 0;
        for (int h = 0; h < holders; h++) {
            int bay = random.nextInt(6);
            while ((held >> bay & 1) != 0) {
                bay = (bay + 1) % 6;
            }
            held |= 1 << bay;
            blank(text).append(h == 0 ? ';' : ',');
            blank(text).append("psmly".charAt(random.nextInt(5)));
            int used = random.nextInt(5) == 0 ? 99 : random.nextInt(3) == 0 ? 80 + random.nextInt(19) : random.nextInt(100);
            blank(text).append(used < 10 && random.nextBoolean() ? "0" : "").append(used);
            blank(text).append('@');
            blank(text).append(bay);
            if (random.nextInt(4) != 0) {
                blank(text).append('>');
                blank(text).append(random.nextInt(6));
            }
        }
        return blank(text).toString();
    }

    private StringBuilder blank(StringBuilder text) {
        return random.nextInt(60) == 0 ? text.append(' ') : text;
    }

    private String badText() {
        StringBuilder text = new StringBuilder(goodText());
        String signs = "0123456789;,@>psmly xP:/";
        int faults = 1 + random.nextInt(2);
        for (int f = 0; f < faults; f++) {
            int place = random.nextInt(text.length());
            char sign = signs.charAt(random.nextInt(signs.length()));
            switch (random.nextInt(4)) {
                case 0: text.setCharAt(place, sign); break;
                case 1: text.insert(place, sign); break;
                case 2: text.deleteCharAt(place); break;
                default: text.setLength(Math.max(1, place)); break;
            }
        }
        return text.toString();
    }

    private void text(String text) {
        for (int i = 0; i < text.length(); i++) {
            due("type", x.type(text.charAt(i)), m.type(text.charAt(i)), text.charAt(i));
        }
        due("crypt '" + text + "' ", x.crypt(), m.crypt());
        all();
    }

    private void all() {
        for (int what = 0; what <= 6; what++) {
            due("count", x.count(what), m.count(what), what);
        }
        for (int h = 0; h < m.count(0); h++) {
            for (int what = 0; what <= 7; what++) {
                due("of", x.of(h, what), m.of(h, what), h, what);
            }
        }
        for (int b = 0; b < 6; b++) {
            for (int what = 0; what <= 2; what++) {
                due("at", x.at(b, what), m.at(b, what), b, what);
            }
        }
    }

    private void step() {
        int part = random.nextInt(10);
        if (part < 2) {
            tell();
        } else if (part < 4) {
            deed();
        } else if (part < 7) {
            ask();
        } else {
            sheets();
        }
    }

    private void tell() {
        int a = pick(0, 5);
        int b = pick(0, 99);
        int c = pick(0, 5);
        switch (random.nextInt(14)) {
            case 0: due("holder", x.holder(a, b, c), m.holder(a, b, c), a, b, c); break;
            case 1: case 2: { int v = pick(0, 9); due("rule", x.rule(a, 0, v), m.rule(a, 0, v), a, 0, v); break; }
            case 3: case 4: due("rule", x.rule(a, 1, b), m.rule(a, 1, b), a, 1, b); break;
            case 5: due("rule", x.rule(a, c, b), m.rule(a, c, b), a, c, b); break;
            case 6: { int w = pick(0, 7), h = who(); due("of", x.of(h, w), m.of(h, w), h, w); break; }
            case 7: { int w = pick(0, 2); due("at", x.at(a, w), m.at(a, w), a, w); break; }
            case 8: { int w = pick(0, 6); due("count", x.count(w), m.count(w), w); break; }
            case 9: { int w = pick(32, 126); due("type", x.type(w), m.type(w), w); break; }
            case 10: due("image", x.image(), m.image()); break;
            case 11: due("restore", x.restore(), m.restore()); break;
            case 12: text(badText()); break;
            default: text(goodText()); break;
        }
    }

    private void deed() {
        int h = who();
        int o = who();
        int b = pick(0, 5);
        int n = many(40);
        switch (random.nextInt(9)) {
            case 0: due("days", x.days(n), m.days(n), n); break;
            case 1: case 2: due("drift", x.drift(n), m.drift(n), n); break;
            case 3: due("change", x.change(h, o), m.change(h, o), h, o); break;
            case 4: due("move", x.move(h, b), m.move(h, b), h, b); break;
            case 5: due("talk", x.talk(h), m.talk(h), h); break;
            case 6: case 7: due("undo", x.undo(), m.undo()); break;
            default: {
                int v = random.nextInt(4) == 0 ? pick(0, 5) : random.nextInt();
                due("seed", x.seed(v), m.seed(v), v);
            }
        }
        if (random.nextInt(4) == 0) {
            all();
        }
    }

    private void ask() {
        int h = who();
        int n = pick(0, 99);
        int d = random.nextInt(3) == 0 ? pick(1, 40) : pick(1, 8);
        int k = pick(-1, 5);
        switch (random.nextInt(16)) {
            case 0: case 1: due("ahead", x.ahead(h, n), m.ahead(h, n), h, n); break;
            case 2: due("then", x.then(n, 0), m.then(n, 0), n, 0); break;
            case 3: { int w = pick(0, 1); due("then", x.then(n, w), m.then(n, w), n, w); break; }
            case 4: case 5: due("takes", x.takes(h), m.takes(h), h); break;
            case 6: { int w = pick(0, 1); due("cough", x.cough(w), m.cough(w), w); break; }
            case 7: due("content", x.content(k), m.content(k), k); break;
            case 8: { int w = pick(0, 2); due("swaps", x.swaps(w), m.swaps(w), w); break; }
            case 9: due("dark", x.dark(h, d), m.dark(h, d), h, d); break;
            case 10: due("spare", x.spare(h, d), m.spare(h, d), h, d); break;
            case 11: case 12: odds(h); break;
            default: {
                // The dearest calls of the model: not often.
                if (random.nextInt(8) == 0) {
                    deals(h, d);
                }
            }
        }
    }

    private void deals(int h, int d) {
        int k = pick(-1, 5);
        if (random.nextBoolean()) {
            due("latest", x.latest(h, d, k), m.latest(h, d, k), h, d, k);
        } else {
            due("earn", x.earn(d, k), m.earn(d, k), d, k);
        }
    }

    private void odds(int h) {
        int n = pick(0, 6);
        int c = pick(0, 10);
        int near = m.ahead(h, Math.max(0, Math.min(6, n)));
        int u = random.nextBoolean() ? pick(0, 99) : near - random.nextInt(12);
        due("coughs", x.coughs(h, u, n, c, 0), m.coughs(h, u, n, c, 0), h, u, n, c, 0);
        due("coughs", x.coughs(h, u, n, c, 1), m.coughs(h, u, n, c, 1), h, u, n, c, 1);
    }

    private void sheets() {
        int h = who();
        int s = pick(0, 3);
        int t = pick(0, 3);
        int lane = random.nextInt(3) == 0 ? pick(0, 3) : 2;
        int i = random.nextInt(3) == 0 ? pick(0, 23) : random.nextInt(3);
        int j = random.nextInt(3) == 0 ? pick(0, 23) : random.nextInt(3);
        switch (random.nextInt(11)) {
            case 0: case 1: { int n = pick(0, 24); due("sheet", x.sheet(s, lane, n), m.sheet(s, lane, n), s, lane, n); break; }
            case 2: if (random.nextInt(3) == 0) { due("drop", x.drop(s), m.drop(s), s); } break;
            case 3: {
                long v = random.nextInt(4) == 0 ? random.nextLong() : pick(0, 99) + ((long) random.nextInt(3) << 8 * random.nextInt(6));
                due("item", x.item(s, lane, i, v), m.item(s, lane, i, v), s, lane, i, v);
                break;
            }
            case 4: case 5: { int n = pick(0, 24); due("copy", x.copy(s, i, t, j, n), m.copy(s, i, t, j, n), s, i, t, j, n); break; }
            case 6: case 7: { int n = pick(1, 12); due("film", x.film(h, n, s, lane, i), m.film(h, n, s, lane, i), h, n, s, lane, i); break; }
            default: looks(h, s, lane, i);
        }
    }

    private void looks(int h, int s, int lane, int i) {
        int n = random.nextInt(2) == 0 ? pick(1, 8) : 1 + random.nextInt(3);
        for (int what = 0; what < 3; what++) {
            due("looks", x.looks(h, s, lane, i, n, what), m.looks(h, s, lane, i, n, what), h, s, lane, i, n, what);
        }
        int w = pick(0, 2);
        due("looks", x.looks(h, s, lane, i, n, w), m.looks(h, s, lane, i, n, w), h, s, lane, i, n, w);
    }
}
