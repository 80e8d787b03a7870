/** Each promise of the document with answers worked out by hand: ordinary inputs, edges, wrong inputs. */
public final class PromiseTest {
    private static final int BAD = -1, NOT = -2, FULL = -3, NONE = -4, NULL = -11, CAST = -12, INDEX = -13, SIZE = -14;
    private static final int LOW = Integer.MIN_VALUE, HIGH = Integer.MAX_VALUE;
    /** Bays 0 .. 5 are held by 2, 3, 5, 0, 1, 4; holder 5 has taken it up. */
    private static final String SIX = "307512;p20@3>0,s45@4>5,m50@0>3,l30@1>2,y64@5>1,m99@2";

    private final Check check = new Check();

    public static void main(String[] args) {
        PromiseTest test = new PromiseTest();
        test.bays();
        test.texts();
        test.deeds();
        test.foretold();
        test.sheets();
        test.check.done();
    }

    private void due(String call, long got, long want) {
        check.due(call, got, want);
    }

    private static int read(CryptBays x, String text) {
        for (int i = 0; i < text.length(); i++) {
            x.type(text.charAt(i));
        }
        return x.crypt();
    }

    private static CryptBays crypt(String text) {
        CryptBays x = new CryptBays();
        if (read(x, text) < 0) {
            throw new IllegalStateException("the test's crypt is faulty: " + text);
        }
        return x;
    }

    // ---- 1 bays, holders

    private void bays() {
        newObject();
        holder();
        rule();
        of();
        gains();
        at();
        count();
    }

    private void newObject() {
        check.part("promise 1");
        CryptBays x = new CryptBays();
        for (int what = 0; what <= 6; what++) {
            due("count " + what, x.count(what), 0);
        }
        for (int b = 0; b < 6; b++) {
            due("lamp", x.at(b, 0), 3);
            due("due", x.at(b, 1), 20);
            due("who", x.at(b, 2), NONE);
        }
        due("of", x.of(0, 0), BAD);
        due("the draw", x.seed(5), 1);
        due("undo", x.undo(), NONE);
        due("restore", x.restore(), NONE);
        for (int s = 0; s < 4; s++) {
            due("drop", x.drop(s), NULL);
        }
        due("the tape is empty", x.crypt(), -20);
        due("type", x.type('3'), 1);
    }

    private void holder() {
        check.part("promise 2");
        CryptBays x = new CryptBays();
        due("a kind below", x.holder(-1, 0, 0), BAD);
        due("a kind above", x.holder(5, 0, 0), BAD);
        due("used below", x.holder(0, -1, 0), BAD);
        due("used above", x.holder(0, 100, 0), BAD);
        due("likes below", x.holder(0, 0, -1), BAD);
        due("likes above", x.holder(0, 0, 6), BAD);
        due("far out", x.holder(LOW, HIGH, LOW), BAD);
        due("nobody came", x.count(0), 0);
        due("the first", x.holder(4, 98, 5), 0);
        due("its kind", x.of(0, 0), 4);
        due("used", x.of(0, 1), 98);
        due("its bay", x.of(0, 2), 0);
        due("likes", x.of(0, 3), 5);
        due("not taken up", x.of(0, 4), 0);
        due("moved", x.move(0, 2), 0);
        due("a wrong one", x.holder(5, 0, 0), BAD);
        due("leaves what may be undone", x.count(6), 1);
        due("the second", x.holder(0, 99, 0), 1);
        due("leaves nothing", x.count(6), 0);
        due("undo", x.undo(), NONE);
        due("the lowest free", x.of(1, 2), 0);
        due("taken up by 99", x.of(1, 4), 1);
        due("the third", x.holder(1, 0, 0), 2);
        due("its bay", x.of(2, 2), 1);
        due("the fourth", x.holder(2, 0, 0), 3);
        due("its bay is behind the held one", x.of(3, 2), 3);
        due("the fifth", x.holder(3, 0, 0), 4);
        due("the sixth", x.holder(4, 0, 0), 5);
        due("its bay", x.of(5, 2), 5);
        due("talk", x.talk(5), 0);
        due("the seventh", x.holder(0, 0, 0), FULL);
        due("bad ahead of full", x.holder(0, 0, 6), BAD);
        due("six", x.count(0), 6);
        due("a full one leaves what may be undone", x.count(6), 1);
    }

    private void rule() {
        check.part("promise 3");
        CryptBays x = new CryptBays();
        due("lamp", x.rule(5, 0, 9), 3);
        due("lamp again", x.rule(5, 0, 0), 9);
        due("at", x.at(5, 0), 0);
        due("due", x.rule(5, 1, 99), 20);
        due("due again", x.rule(5, 1, 0), 99);
        due("at", x.at(5, 1), 0);
        due("another", x.at(4, 0), 3);
        int[][] wrong = {{-1, 0, 0}, {6, 0, 0}, {0, -1, 0}, {0, 2, 0}, {0, 0, -1}, {0, 0, 10}, {0, 1, -1}, {0, 1, 100},
            {HIGH, 0, 0}, {LOW, 1, 0}, {0, 0, HIGH}, {0, 1, LOW}};
        for (int[] w : wrong) {
            due("rule", x.rule(w[0], w[1], w[2]), BAD);
        }
        due("lamp stays", x.at(0, 0), 3);
        due("due stays", x.at(0, 1), 20);
        x.holder(0, 0, 0);
        x.days(1);
        x.rule(0, 0, 8);
        x.rule(0, 1, 7);
        due("is none to be undone", x.undo(), 0);
        due("lamp as told since", x.at(0, 0), 8);
        due("due as told since", x.at(0, 1), 7);
        due("the lamp counts", x.of(0, 5), 2);
    }

    private void of() {
        check.part("promise 4");
        CryptBays x = crypt(SIX);
        int[][] want = {
            {0, 20, 3, 0, 0, 5, 34, 3}, {1, 45, 4, 5, 0, 7, 17, 1}, {2, 50, 0, 3, 0, 10, 8, 3},
            {3, 30, 1, 2, 0, 4, 36, 1}, {4, 64, 5, 1, 0, 11, 2, 4}, {2, 99, 2, 2, 1, 0, 9, 0}};
        for (int h = 0; h < 6; h++) {
            for (int what = 0; what < 8; what++) {
                due("of " + h + " " + what, x.of(h, what), want[h][what]);
            }
        }
        due("holder below", x.of(-1, 0), BAD);
        due("holder above", x.of(6, 0), BAD);
        due("what below", x.of(0, -1), BAD);
        due("what above", x.of(0, 8), BAD);
        due("far out", x.of(HIGH, LOW), BAD);
        due("not so many", crypt("333333;p0@0").of(1, 0), BAD);
    }

    private void gains() {
        check.part("promise 4, gains");
        due("plain, dark", crypt("000000;p0@0").of(0, 5), 10);
        due("plain, bright", crypt("999999;p0@0").of(0, 5), 1);
        due("plain, not cut by 99", crypt("333333;p98@0").of(0, 5), 7);
        due("shy alone", crypt("333333;s0@1").of(0, 5), 7);
        due("shy by one", crypt("333333;s0@1,p0@0").of(0, 5), 6);
        due("shy by two", crypt("333333;s0@1,p0@0,p0@2").of(0, 5), 5);
        due("shy by one behind the curtain", crypt("333333;s0@1,p99@0,p0@2").of(0, 5), 6);
        due("shy, one further on", crypt("333333;s0@1,p0@3").of(0, 5), 7);
        due("shy, 0 at least", crypt("999999;s0@1,p0@0,p0@2").of(0, 5), 0);
        due("miss inside", crypt("333333;m0@1").of(0, 5), 7);
        due("miss at 0", crypt("333333;m0@0").of(0, 5), 10);
        due("miss at 5", crypt("333333;m0@5").of(0, 5), 10);
        due("miss at 4", crypt("333333;m0@4").of(0, 5), 7);
        due("solicitor, at most 4", crypt("333333;l0@1").of(0, 5), 4);
        due("solicitor as shy", crypt("555555;l0@1,p0@0,p0@2").of(0, 5), 3);
        due("solicitor, 0 at least", crypt("999999;l0@1,p0@0,p0@2").of(0, 5), 0);
        due("solicitor by one behind the curtain", crypt("666666;l0@1,p99@0,p99@2").of(0, 5), 4);
        due("young inside", crypt("333333;y0@1,p0@0").of(0, 5), 7);
        due("young by one behind the curtain", crypt("333333;y0@1,p99@0").of(0, 5), 9);
        due("young by two", crypt("333333;y0@1,p99@0,p99@2").of(0, 5), 11);
        due("young at 5 by one", crypt("000000;y0@5,p99@4").of(0, 5), 15);
        due("young at 0", crypt("000000;y0@0,p99@2").of(0, 5), 13);
        due("young taken up", crypt("000000;y99@0,p99@1").of(0, 5), 0);
    }

    private void at() {
        check.part("promise 5");
        CryptBays x = crypt(SIX);
        int[] lamps = {3, 0, 7, 5, 1, 2};
        int[] who = {2, 3, 5, 0, 1, 4};
        for (int b = 0; b < 6; b++) {
            due("lamp", x.at(b, 0), lamps[b]);
            due("due", x.at(b, 1), 20);
            due("who", x.at(b, 2), who[b]);
        }
        due("a free one", crypt("333333;p0@1").at(0, 2), NONE);
        due("bay below", x.at(-1, 0), BAD);
        due("bay above", x.at(6, 0), BAD);
        due("what below", x.at(0, -1), BAD);
        due("what above", x.at(0, 3), BAD);
        due("far out", x.at(LOW, HIGH), BAD);
    }

    private void count() {
        check.part("promise 8");
        CryptBays x = crypt(SIX);
        x.days(1);
        int[] want = {6, 1, 100, 32, 345, 12, 1};
        for (int what = 0; what < 7; what++) {
            due("count " + what, x.count(what), want[what]);
        }
        x.days(3);
        due("dues", x.count(2), 400);
        due("taken up", x.count(3), 48);
        x.days(5);
        due("known", x.count(6), 8);
        due("below", x.count(-1), BAD);
        due("above", x.count(7), BAD);
        due("far out", x.count(HIGH), BAD);
    }

    // ---- texts

    private void texts() {
        type();
        cryptReads();
        cryptFaults();
    }

    private void type() {
        check.part("promise 6");
        CryptBays x = new CryptBays();
        due("below", x.type(31), BAD);
        due("above", x.type(127), BAD);
        due("far out", x.type(32 + 65536), BAD);
        due("least", x.type(LOW), BAD);
        due("a blank", x.type(32), 1);
        due("the last sign", x.type(126), 2);
        for (int i = 3; i <= 80; i++) {
            due("type", x.type('a'), i);
        }
        due("one too many", x.type('a'), FULL);
        due("bad ahead of full", x.type(31), BAD);
        due("crypt", x.crypt(), -21);
        due("empty then", x.type('3'), 1);
        CryptBays y = new CryptBays();
        StringBuilder full = new StringBuilder(SIX);
        while (full.length() < 80) {
            full.append(' ');
        }
        due("80 letters", read(y, full.toString()), 6);
        due("80 blanks", read(y, " ".repeat(80)), -100);
    }

    private void cryptReads() {
        check.part("promise 7");
        CryptBays x = new CryptBays();
        x.rule(0, 1, 50);
        x.seed(77);
        x.holder(0, 5, 5);
        x.days(2);
        due("lamps alone", read(x, "012345"), 0);
        for (int b = 0; b < 6; b++) {
            due("lamp", x.at(b, 0), b);
            due("nobody", x.at(b, 2), NONE);
        }
        due("day", x.count(1), 0);
        due("dues", x.count(2), 0);
        due("nothing to undo", x.undo(), NONE);
        due("due stays", x.at(0, 1), 50);
        due("the draw stays", x.seed(77), 77);
        due("six", read(x, SIX), 6);
        due("likes as told", x.of(0, 3), 0);
        due("likes its bay", x.of(5, 3), 2);
        due("99 has taken it up", x.of(5, 4), 1);
        due("fewer", read(x, "333333;y7@4"), 1);
        due("its kind", x.of(0, 0), 4);
        due("one digit", x.of(0, 1), 7);
        due("its bay", x.of(0, 2), 4);
        due("the others are gone", x.of(1, 0), BAD);
        due("bays are free again", x.at(2, 2), NONE);
        due("the next one", x.holder(0, 0, 0), 1);
        due("in the lowest", x.of(1, 2), 0);
        due("a leading 0", read(x, "333333;p05@0"), 1);
        due("is 5", x.of(0, 1), 5);
        due("00", read(x, "333333;p00@5"), 1);
        due("is 0", x.of(0, 1), 0);
        due("blanks", read(x, " 3 1 4 1 5 9 ; s 12 @ 3 > 0 , p 4 @ 2 "), 2);
        due("lamp", x.at(5, 0), 9);
        due("used", x.of(0, 1), 12);
        due("likes", x.of(0, 3), 0);
        due("bay", x.of(1, 2), 2);
        String kinds = "psmly";
        for (int k = 0; k < 5; k++) {
            due("a kind", read(x, "333333;" + kinds.charAt(k) + "1@0"), 1);
            due("is it", x.of(0, 0), k);
        }
    }

    private void cryptFaults() {
        check.part("promise 7, faults");
        String[] faults = {
            "", "x", "33333", "33333x", "333333.", "3333333", "333333;", "333333;q", "333333;p", "333333;px", "333333;P1@0",
            "333333;p9", "333333;p9x", "333333;p100", "333333;p99@", "333333;p99@6", "333333;p99@x", "333333;p1@0,",
            "333333;p1@0,p2@0", "333333;p1@0>", "333333;p1@0>6", "333333;p1@0>1>", "333333;p1@0>1p", "333333;p1@01",
            "333333;p1@0;", "333333;p-1@0", "333333;,", "333333,p1@0", "333333;p@0", "333333;1@0", "333333;p1@0>12",
            "333333;p1@0,p1@1,p1@2,p1@3,p1@4,p1@5,", "333333;p1@0,p1@1,p1@2,p1@3,p1@4,p1@5,p1@0",
            "33333:", "/33333", "333333;p:@0", "333333;p1:@0", "333333;p1@:", "333333;p1@/", "333333;p1@0>/", "333333<p1@0",
            "   ", "3333  ", "33 x", "333333;p1 0@0", "333333;p10 0@0", "333333 ; p 1  x", "333333;p1@0 , ", "333333;p1@0,p2@ 0"};
        int[] places = {
            0, 0, 5, 5, 6, 6, 7, 7, 8, 8, 7,
            9, 9, 10, 11, 11, 11, 12,
            15, 12, 12, 13, 13, 11,
            11, 8, 7, 6, 8, 7, 13,
            36, 36,
            5, 0, 8, 9, 10, 10, 12, 6,
            3, 6, 3, 10, 11, 14, 14, 16};
        CryptBays x = crypt(SIX);
        x.days(1);
        for (int i = 0; i < faults.length; i++) {
            due("'" + faults[i] + "'", read(x, faults[i]), -20 - places[i]);
        }
        due("holders stay", x.count(0), 6);
        due("lamps stay", x.at(2, 0), 7);
        due("the day stays", x.count(1), 1);
        due("dues stay", x.count(2), 100);
        due("undo stays", x.undo(), 0);
        due("as it was", x.of(0, 1), 20);
    }

    // ---- what is done

    private void deeds() {
        days();
        change();
        move();
        talk();
        drift();
        undo();
        seed();
    }

    private void days() {
        check.part("promise 9");
        CryptBays x = crypt(SIX);
        due("one", x.days(1), 32);
        int[] used = {25, 52, 60, 34, 75, 99};
        for (int h = 0; h < 6; h++) {
            due("used", x.of(h, 1), used[h]);
        }
        due("three", x.days(3), 48);
        due("dues of five, four days", x.count(2), 400);
        due("used, 99 at most", x.of(4, 1), 99);
        due("each may be undone", x.count(6), 4);
        due("below", x.days(0), BAD);
        due("above", x.days(41), BAD);
        due("far below", x.days(LOW), BAD);
        due("far above", x.days(HIGH), BAD);
        due("the day", x.count(1), 4);
        CryptBays together = crypt("333333;s92@0,s92@1");
        due("by how all is ahead of it", together.days(1), 0);
        due("the first", together.of(0, 1), 98);
        due("the second", together.of(1, 1), 98);
        due("then both", together.days(1), 3);
        due("both paid twice", together.count(2), 80);
        due("no more", together.days(5), 3);
        due("dues stay", together.count(2), 80);
        daysFull();
    }

    private void daysFull() {
        CryptBays x = new CryptBays();
        for (int i = 0; i < 249; i++) {
            x.days(40);
        }
        due("9960", x.count(1), 9960);
        due("above 9999", x.days(40), FULL);
        due("drift likewise", x.drift(40), FULL);
        due("the draw stays", x.seed(1), 1);
        due("bad ahead of full", x.days(41), BAD);
        due("9999", x.days(39), 0);
        due("the day", x.count(1), 9999);
        due("one more", x.days(1), FULL);
        due("a drift more", x.drift(1), FULL);
        due("bad ahead of full", x.drift(0), BAD);
        due("the foretold have no last day", x.then(99, 1), 0);
    }

    private void change() {
        check.part("promise 10");
        CryptBays x = crypt("333333;p10@0,p20@3,p99@5");
        due("changed", x.change(0, 1), 3);
        due("the other", x.of(1, 2), 0);
        due("who", x.at(0, 2), 1);
        due("who", x.at(3, 2), 0);
        due("one behind the curtain", x.change(2, 1), 0);
        due("alike", x.change(1, 1), BAD);
        due("below", x.change(-1, 0), BAD);
        due("above", x.change(3, 0), BAD);
        due("the other below", x.change(0, -1), BAD);
        due("the other above", x.change(0, 3), BAD);
        due("two may be undone", x.count(6), 2);
        due("undo", x.undo(), 1);
        due("as ahead of it", x.of(2, 2), 5);
        due("who", x.at(0, 2), 1);
    }

    private void move() {
        check.part("promise 11");
        CryptBays x = crypt("333333;p10@0,p99@3");
        due("moved", x.move(0, 5), 0);
        due("bay", x.of(0, 2), 5);
        due("free", x.at(0, 2), NONE);
        due("who", x.at(5, 2), 0);
        due("another has it", x.move(0, 3), NOT);
        due("itself has it", x.move(0, 5), NOT);
        due("holder below", x.move(-1, 0), BAD);
        due("holder above", x.move(2, 0), BAD);
        due("bay below", x.move(0, -1), BAD);
        due("bay above", x.move(0, 6), BAD);
        due("one may be undone", x.count(6), 1);
        due("one behind the curtain", x.move(1, 4), 3);
        due("undo", x.undo(), 1);
        due("undo", x.undo(), 0);
        due("bay", x.of(0, 2), 0);
        due("who", x.at(5, 2), NONE);
        due("who", x.at(3, 2), 1);
    }

    private void talk() {
        check.part("promise 12");
        CryptBays x = crypt("333333;p12@0,p99@1,p98@2");
        due("talked", x.talk(0), 7);
        due("talked", x.talk(0), 2);
        due("0 at least", x.talk(0), 0);
        due("0 still", x.talk(0), 0);
        due("taken up", x.talk(1), NOT);
        due("98", x.talk(2), 93);
        due("below", x.talk(-1), BAD);
        due("above", x.talk(3), BAD);
        due("five may be undone", x.count(6), 5);
        due("no dues", x.count(2), 0);
        due("no day", x.count(1), 0);
    }

    private void drift() {
        check.part("promise 13");
        // The draws from 1 on: 1103527590 and 377401575 talk to nobody, 662824084 to holder 1 of 2.
        CryptBays x = crypt("333333;p50@0,p50@3");
        due("two days", x.drift(2), 0);
        due("nobody was talked to", x.of(0, 1), 64);
        due("the draw", x.seed(377401575), 377401575);
        due("the third", x.drift(1), 0);
        due("not 0", x.of(0, 1), 71);
        due("but 1", x.of(1, 1), 66);
        due("the draw", x.seed(662824084), 662824084);
        due("dues", x.count(2), 120);
        due("each with its talk", x.count(6), 3);
        due("undo", x.undo(), 2);
        due("used", x.of(1, 1), 64);
        due("the draw too", x.seed(377401575), 377401575);
        due("below", x.drift(0), BAD);
        due("above", x.drift(41), BAD);
        due("far below", x.drift(LOW), BAD);
        due("no draw by days", x.days(1), 0);
        due("the draw", x.seed(5), 377401575);
        CryptBays taken = crypt("333333;p50@0,p99@3");
        due("who has taken it up", taken.drift(3), 2);
        due("is not talked to", taken.of(1, 1), 99);
        CryptBays ahead = crypt("000000;p50@0,p89@3");
        ahead.seed(377401575);
        due("talked to ahead of the day", ahead.drift(1), 0);
        due("so not taken up", ahead.of(1, 1), 94);
        CryptBays low = crypt("333333;p0@0,p3@3");
        low.seed(377401575);
        low.drift(1);
        due("0 at least", low.of(1, 1), 7);
        CryptBays empty = new CryptBays();
        due("nobody there", empty.drift(3), 0);
        due("the draw goes on", empty.seed(1), 662824084);
    }

    private void undo() {
        check.part("promise 14");
        CryptBays x = crypt("333333;p10@0,p20@1");
        due("none", x.undo(), NONE);
        x.days(1);
        x.talk(0);
        x.change(0, 1);
        x.move(0, 4);
        x.drift(1);
        due("five", x.count(6), 5);
        x.seed(9);
        due("the drift", x.undo(), 4);
        due("the draw as ahead of it, whatever was told since", x.seed(1), 1);
        due("used", x.of(0, 1), 12);
        due("day", x.count(1), 1);
        due("dues", x.count(2), 40);
        due("the move", x.undo(), 3);
        due("bay", x.of(0, 2), 1);
        due("the change", x.undo(), 2);
        due("bay", x.of(0, 2), 0);
        due("who", x.at(1, 2), 1);
        due("the talk", x.undo(), 1);
        due("used", x.of(0, 1), 17);
        due("the day", x.undo(), 0);
        due("used", x.of(0, 1), 10);
        due("dues", x.count(2), 0);
        due("day", x.count(1), 0);
        due("none", x.undo(), NONE);
        undoLost();
    }

    private void undoLost() {
        CryptBays x = crypt("999999;p10@0,p93@2");
        due("twelve days", x.days(12), 2);
        for (int left = 7; left >= 0; left--) {
            due("undo", x.undo(), left);
        }
        due("older ones are lost", x.undo(), NONE);
        due("used", x.of(0, 1), 14);
        due("not taken up again", x.of(1, 4), 0);
        due("day", x.count(1), 4);
        due("dues", x.count(2), 160);
        x.talk(0);
        due("a new one", x.undo(), 0);
        due("used", x.of(0, 1), 14);
        CryptBays moved = crypt("333333;p10@3");
        for (int b = 0; b < 6; b++) {
            if (b != 3) {
                due("moved", moved.move(0, b), 3);
                due("undo", moved.undo(), 0);
                due("free again", moved.at(b, 2), NONE);
                due("held again", moved.at(3, 2), 0);
            }
        }
    }

    private void seed() {
        check.part("promise 15");
        CryptBays x = new CryptBays();
        due("at first", x.seed(0), 1);
        due("0", x.seed(HIGH), 0);
        due("below", x.seed(-1), BAD);
        due("far below", x.seed(LOW), BAD);
        due("stays", x.seed(HIGH), HIGH);
        x.drift(1);
        long draw = ((long) HIGH * 1103515245L + 12345L) & 0x7fffffffL;
        due("31 bits", x.seed(1), draw);
        due("none to be undone", x.undo(), 0);
        due("by the drift's undo", x.seed(4), HIGH);
    }

    // ---- 2 foretold

    private void foretold() {
        ahead();
        then();
        takes();
        cough();
        content();
        swaps();
        latest();
        earn();
        dark();
        spare();
        coughs();
        image();
    }

    private void ahead() {
        check.part("promise 16");
        CryptBays x = crypt("333333;p10@0,s20@1");
        due("now", x.ahead(0, 0), 10);
        due("behind one", x.ahead(0, 1), 17);
        due("behind twelve", x.ahead(0, 12), 94);
        due("99 at most", x.ahead(0, 13), 99);
        due("behind 99", x.ahead(0, 99), 99);
        due("shy behind 13", x.ahead(1, 13), 98);
        due("nothing is changed", x.of(0, 1), 10);
        due("no day", x.count(1), 0);
        due("nothing to undo", x.count(6), 0);
        CryptBays shy = crypt("333333;p92@0,s20@1");
        due("ahead of the curtain", shy.ahead(1, 1), 26);
        due("behind it", shy.ahead(1, 2), 33);
        due("holder below", x.ahead(-1, 0), BAD);
        due("holder above", x.ahead(2, 0), BAD);
        due("n below", x.ahead(0, -1), BAD);
        due("n above", x.ahead(0, 100), BAD);
        due("far out", x.ahead(0, HIGH), BAD);
    }

    private void then() {
        check.part("promise 17");
        CryptBays x = crypt("333333;p92@0,p78@1");
        x.rule(1, 1, 7);
        due("now", x.then(0, 0), 0);
        due("behind one", x.then(1, 0), 1);
        due("dues", x.then(1, 1), 27);
        due("behind two", x.then(2, 0), 1);
        due("dues", x.then(2, 1), 34);
        due("behind three", x.then(3, 0), 3);
        due("dues", x.then(99, 1), 41);
        x.days(1);
        due("dues in all", x.then(0, 1), 27);
        due("with those that are", x.then(1, 1), 34);
        due("nothing is changed", x.count(2), 27);
        due("n below", x.then(-1, 0), BAD);
        due("n above", x.then(100, 0), BAD);
        due("what below", x.then(0, -1), BAD);
        due("what above", x.then(0, 2), BAD);
    }

    private void takes() {
        check.part("promise 18");
        CryptBays x = crypt("999999;p0@0,p1@2,p99@4,s50@3,p98@5");
        due("99 days", x.takes(0), 99);
        due("98 days", x.takes(1), 98);
        due("has by now", x.takes(2), 0);
        due("one day", x.takes(4), 1);
        // Beside holder 1, who takes it up behind 98 days, the shy one has 0 more a day till then.
        due("not by 99 days", x.takes(3), NONE);
        due("behind 100", crypt("989999;s0@1,s98@2,p98@0").takes(0), NONE);
        due("below", x.takes(-1), BAD);
        due("above", x.takes(5), BAD);
        due("nobody", new CryptBays().takes(0), BAD);
        due("nothing is changed", x.of(0, 1), 0);
    }

    private void cough() {
        check.part("promise 19");
        CryptBays x = crypt("333333;p10@0,p10@1");
        due("now", x.cough(0), 0);
        due("who", x.cough(1), 1);
        CryptBays later = crypt("370000;p20@0,p36@1");
        // 7 a day and 3 a day: alike behind 4 days.
        due("later", later.cough(0), 4);
        due("who", later.cough(1), 1);
        due("nothing is changed", later.of(0, 1), 20);
        CryptBays first = crypt("333333;p1@5,p10@2,p1@4,p10@3");
        due("two pairs", first.cough(0), 0);
        due("the first", first.cough(1), 2);
        due("not beside", crypt("333333;p10@0,p10@2").cough(0), NONE);
        due("not beside", crypt("333333;p10@0,p10@2").cough(1), NONE);
        due("taken up", crypt("333333;p99@0,p99@1").cough(0), NONE);
        due("both take it up at once", crypt("340000;p92@0,p93@1").cough(0), NONE);
        // The shy one in bay 1 has 0 more a day till the one in bay 0 takes it up, 1 more from then on.
        CryptBays slow = crypt("989999;s0@1,s98@2,p98@0");
        due("behind 99", slow.cough(0), 99);
        due("who", slow.cough(1), 1);
        due("behind 100", crypt("989999;s0@1,s98@2,p97@0").cough(0), NONE);
        due("nobody", new CryptBays().cough(0), NONE);
        due("below", x.cough(-1), BAD);
        due("above", x.cough(2), BAD);
    }

    private void content() {
        check.part("promise 20");
        CryptBays x = crypt("333333;p0@5>2,s0@4>2,m0@3>2");
        due("far", x.content(-1), 2);
        due("the first way", x.content(0), 1);
        due("the first way", x.content(1), 2);
        due("the first way", x.content(2), 3);
        due("not so many", x.content(3), NONE);
        due("far out", x.content(HIGH), NONE);
        due("below", x.content(-2), BAD);
        due("far below", x.content(LOW), BAD);
        due("nothing is changed", x.of(0, 2), 5);
        CryptBays six = crypt("333333;p0@0>5,p0@1>5,p0@2>5,p0@3>5,p0@4>5,p0@5>5");
        due("six", six.content(-1), 15);
        for (int k = 0; k < 6; k++) {
            due("rising", six.content(k), k);
        }
        CryptBays free = crypt("333333;p0@0>4");
        due("bays that are free, too", free.content(-1), 0);
        due("bay", free.content(0), 4);
        due("nobody", new CryptBays().content(-1), 0);
        due("nobody", new CryptBays().content(0), NONE);
    }

    private void swaps() {
        check.part("promise 21");
        CryptBays x = crypt("333333;p0@0>5,p0@1>0,p0@2>1");
        due("how many", x.swaps(0), 1);
        due("the first", x.swaps(1), 1);
        // 0 changes with 1, then with 2.
        due("calm", x.swaps(2), 2);
        due("nothing is changed", x.of(0, 2), 0);
        due("nothing to undo", x.count(6), 0);
        CryptBays one = crypt("333333;p0@0>4,p0@2>2,p0@5>1");
        due("both must be less far", one.swaps(0), 1);
        due("the first", one.swaps(1), 2);
        due("calm", one.swaps(2), 1);
        due("as far as before is not less", crypt("333333;p0@0>2,p0@4>0").swaps(0), 0);
        due("four pairs", crypt("333333;p0@0>5,p0@5>0,p0@1>4,p0@4>1").swaps(0), 4);
        CryptBays none = crypt("333333;p0@0>1,p0@1>1");
        due("one would leave", none.swaps(0), 0);
        due("none", none.swaps(1), NONE);
        due("calm", none.swaps(2), 0);
        due("nobody", new CryptBays().swaps(1), NONE);
        due("below", x.swaps(-1), BAD);
        due("above", x.swaps(3), BAD);
    }

    private void latest() {
        check.part("promise 22");
        CryptBays x = crypt("900000;p10@0,p20@1");
        due("in the bright bay", x.latest(0, 2, -1), 12);
        due("0", x.latest(0, 2, 0), 0);
        due("1", x.latest(0, 2, 1), 1);
        due("in the bright bay", x.latest(1, 2, -1), 22);
        due("0", x.latest(1, 2, 0), 1);
        due("1", x.latest(1, 2, 1), 0);
        due("not so many", x.latest(1, 2, 2), NONE);
        due("far out", x.latest(1, 2, HIGH), NONE);
        due("k below", x.latest(1, 2, -2), BAD);
        due("n below", x.latest(1, -1, 0), BAD);
        due("n above", x.latest(1, 41, 0), BAD);
        due("holder below", x.latest(-1, 2, 0), BAD);
        due("holder above", x.latest(2, 2, 0), BAD);
        due("bad ahead of none", x.latest(2, 2, 9), BAD);
        x.change(0, 1);
        due("no days: the first way", x.latest(0, 0, 0), 0);
        due("used", x.latest(0, 0, -1), 10);
        due("40 days", x.latest(1, 40, -1), 60);
        due("nothing is changed", x.of(0, 2), 1);
        due("nothing to undo", x.count(6), 1);
        CryptBays held = crypt("099999;p10@0");
        due("the same bays", held.latest(0, 1, -1), 20);
        CryptBays taken = crypt("333333;p99@4,p99@2,p1@0");
        due("has taken it up", taken.latest(0, 5, -1), 99);
        due("the first way", taken.latest(0, 5, 0), 0);
        due("the first way", taken.latest(0, 5, 2), 4);
        // The shy one is best between the two others; all three bays are alike.
        CryptBays shy = crypt("333333;s0@0,p0@1,p0@2");
        due("between", shy.latest(0, 3, -1), 15);
        due("its bay", shy.latest(0, 3, 0), 1);
        due("the first way", shy.latest(0, 3, 1), 0);
    }

    private void earn() {
        check.part("promise 23");
        CryptBays x = crypt("000000;p98@0,p0@1");
        x.rule(0, 1, 99);
        x.rule(1, 1, 0);
        due("dues", x.earn(3, -1), 297);
        due("0", x.earn(3, 0), 1);
        due("1", x.earn(3, 1), 0);
        due("not so many", x.earn(3, 2), NONE);
        due("one day: alike, the first way", x.earn(1, 0), 0);
        due("dues", x.earn(1, -1), 99);
        x.days(1);
        due("dues of these days alone", x.earn(3, -1), 297);
        due("then 99 was paid", x.count(2), 99);
        due("nothing is changed", x.of(0, 2), 0);
        due("n below", x.earn(0, 0), BAD);
        due("n above", x.earn(41, 0), BAD);
        due("k below", x.earn(1, -2), BAD);
        due("bad ahead of none", x.earn(0, 9), BAD);
        due("nobody", new CryptBays().earn(40, -1), 0);
        due("nobody", new CryptBays().earn(40, 0), NONE);
        CryptBays shy = crypt("999999;s0@0,p0@1,p0@2");
        due("40 days", shy.earn(40, -1), 2400);
        due("the first way", shy.earn(40, 0), 0);
    }

    private void dark() {
        check.part("promise 24");
        CryptBays x = crypt("333333;p50@0,m99@1,m50@5,l50@3");
        due("5 a day", x.dark(0, 10), 5);
        due("the darkest", x.dark(0, 5), 0);
        due("none", x.dark(0, 4), NONE);
        due("40 days", x.dark(0, 40), 8);
        due("taken up by now", x.dark(1, 1), 9);
        due("3 more at the end", x.dark(2, 10), 8);
        due("at most 4", x.dark(3, 13), 6);
        due("none", x.dark(3, 12), NONE);
        due("nothing is changed", x.at(0, 0), 3);
        due("holder below", x.dark(-1, 1), BAD);
        due("holder above", x.dark(4, 1), BAD);
        due("n below", x.dark(0, 0), BAD);
        due("n above", x.dark(0, 41), BAD);
    }

    private void spare() {
        check.part("promise 25");
        CryptBays x = crypt("033333;p98@0,p99@2,p50@4,s4@5");
        due("not yet", x.spare(2, 6), 0);
        due("one talk", x.spare(2, 7), 1);
        // 7 a day: 8 days are 56, so that 50 less 10 is 96.
        due("two talks", x.spare(2, 8), 2);
        due("ten a day", x.spare(0, 1), 2);
        due("nine days", x.spare(0, 9), 18);
        due("ten days from 0", x.spare(0, 10), NONE);
        due("none by 40", x.spare(0, 40), NONE);
        due("has by now", x.spare(1, 1), NONE);
        due("0 at least", x.spare(3, 14), 0);
        due("nothing is changed", x.of(0, 1), 98);
        due("holder below", x.spare(-1, 1), BAD);
        due("holder above", x.spare(4, 1), BAD);
        due("n below", x.spare(0, 0), BAD);
        due("n above", x.spare(0, 41), BAD);
        due("18 talks", crypt("111111;p98@0").spare(0, 10), 18);
        due("19 talks", crypt("333333;p98@0").spare(0, 13), 19);
        due("20 talks", crypt("222222;p98@0").spare(0, 12), 20);
        due("no talk is enough", crypt("111111;p98@0").spare(0, 11), NONE);
    }

    private void odds(CryptBays x, int[] q, int above, int below) {
        due("above", x.coughs(q[0], q[1], q[2], q[3], 0), above);
        due("below", x.coughs(q[0], q[1], q[2], q[3], 1), below);
    }

    private void coughs() {
        check.part("promise 26");
        CryptBays x = crypt("333333;p50@0,p2@2,p95@4,s50@5");
        odds(x, new int[] {0, 57, 1, 3}, 7, 10);
        odds(x, new int[] {0, 52, 1, 3}, 1, 1);
        odds(x, new int[] {0, 58, 1, 3}, 0, 1);
        odds(x, new int[] {0, 59, 2, 5}, 3, 4);
        odds(x, new int[] {0, 64, 2, 5}, 1, 4);
        odds(x, new int[] {0, 50, 0, 5}, 1, 1);
        odds(x, new int[] {0, 51, 0, 5}, 0, 1);
        odds(x, new int[] {0, 92, 6, 1}, 531441, 1000000);
        odds(x, new int[] {0, 92, 6, 0}, 1, 1);
        odds(x, new int[] {0, 62, 6, 10}, 1, 1);
        odds(x, new int[] {0, 63, 6, 10}, 0, 1);
        odds(x, new int[] {1, 8, 1, 4}, 3, 5);
        odds(x, new int[] {1, 7, 1, 4}, 1, 1);
        odds(x, new int[] {2, 99, 1, 2}, 4, 5);
        odds(x, new int[] {2, 99, 2, 2}, 1, 1);
        // Beside the one who takes it up behind a day the shy one has 6, then 7.
        odds(x, new int[] {3, 63, 2, 2}, 16, 25);
        odds(x, new int[] {3, 58, 2, 2}, 24, 25);
        due("nothing is changed", x.of(0, 1), 50);
        int[][] wrong = {{-1, 0, 0, 0, 0}, {4, 0, 0, 0, 0}, {0, -1, 0, 0, 0}, {0, 100, 0, 0, 0}, {0, 0, -1, 0, 0},
            {0, 0, 7, 0, 0}, {0, 0, 0, -1, 0}, {0, 0, 0, 11, 0}, {0, 0, 0, 0, -1}, {0, 0, 0, 0, 2}, {0, 0, HIGH, 0, 0}};
        for (int[] w : wrong) {
            due("coughs", x.coughs(w[0], w[1], w[2], w[3], w[4]), BAD);
        }
    }

    private void image() {
        check.part("promises 27, 28");
        CryptBays x = crypt("333333;p10@0,p20@1");
        due("none", x.restore(), NONE);
        x.days(2);
        x.rule(0, 0, 1);
        x.rule(0, 1, 33);
        x.seed(8);
        x.sheet(0, 2, 3);
        x.type('3');
        due("image", x.image(), 1);
        x.drift(5);
        x.change(0, 1);
        x.rule(0, 0, 5);
        x.rule(0, 1, 44);
        x.holder(2, 99, 3);
        x.days(9);
        due("two sheets", x.sheet(1, 0, 5), 5);
        x.type('3');
        due("restore", x.restore(), 1);
        due("holders", x.count(0), 2);
        due("day", x.count(1), 2);
        due("dues", x.count(2), 80);
        due("used", x.of(0, 1), 24);
        due("bay", x.of(0, 2), 0);
        due("free", x.at(2, 2), NONE);
        due("lamp", x.at(0, 0), 1);
        due("due", x.at(0, 1), 33);
        due("the draw", x.seed(8), 8);
        due("what may be undone", x.count(6), 2);
        due("undo", x.undo(), 1);
        due("used", x.of(0, 1), 17);
        due("undo", x.undo(), 0);
        due("used", x.of(0, 1), 10);
        due("the tape is not in it", x.type('3'), 3);
        due("sheets are not in it", x.drop(1), 5);
        due("again", x.restore(), 1);
        due("used", x.of(0, 1), 24);
        due("undo as then", x.count(6), 2);
        x.crypt();
        read(x, "000000");
        due("image", x.image(), 1);
        due("restore", x.restore(), 1);
        due("the latest image", x.count(0), 0);
    }

    // ---- 3 sheets

    private void sheets() {
        looks();
        looksRefused();
        film();
        sheet();
        drop();
        item();
        copy();
    }

    private void row(CryptBays x, int sheet, int lane, int... items) {
        x.sheet(sheet, lane, items.length);
        for (int i = 0; i < items.length; i++) {
            x.item(sheet, lane, i, items[i]);
        }
    }

    private void looks() {
        check.part("promise 29");
        CryptBays x = crypt("333333;p10@0,p20@1");
        row(x, 0, 2, 17, 24, 31);
        due("plain", x.looks(0, 0, 2, 0, 3, 0), 1);
        due("numbers", x.looks(0, 0, 2, 0, 3, 1), 1);
        due("the least", x.looks(0, 0, 2, 0, 3, 2), 10);
        due("from 1 on", x.looks(0, 0, 2, 1, 2, 0), 0);
        due("from 1 on", x.looks(0, 0, 2, 1, 2, 2), 17);
        row(x, 0, 2, 20, 30);
        due("miss, young", x.looks(0, 0, 2, 0, 2, 0), 4 + 16);
        due("not as it is", x.looks(0, 0, 2, 0, 2, 1), 0);
        due("none", x.looks(0, 0, 2, 0, 2, 2), NONE);
        row(x, 0, 2, 16, 22);
        due("shy", x.looks(0, 0, 2, 0, 2, 0), 2);
        row(x, 0, 2, 14, 18);
        due("solicitor", x.looks(0, 0, 2, 0, 2, 0), 8);
        row(x, 0, 2, 27);
        due("inside, plain, miss, young", x.looks(1, 0, 2, 0, 1, 0), 1 + 4 + 16);
        row(x, 3, 0, 99, 99);
        due("99 by 92 or more", x.looks(0, 3, 0, 0, 2, 1), 8);
        due("the least", x.looks(0, 3, 0, 0, 2, 2), 92);
        row(x, 3, 1, 98, 99);
        due("98, then 99", x.looks(0, 3, 1, 0, 2, 1), 1);
        due("91", x.looks(0, 3, 1, 0, 2, 2), 91);
        row(x, 3, 3, 7, 14, 21, 28, 35, 42, 49, 56);
        due("eight of longs", x.looks(0, 3, 3, 0, 8, 2), 0);
        x.item(3, 3, 7, 57);
        due("the eighth is off", x.looks(0, 3, 3, 0, 8, 2), NONE);
        x.item(3, 3, 0, 7L + (1L << 32));
        due("more than an int", x.looks(0, 3, 3, 0, 1, 2), NONE);
        due("nothing is changed", x.of(0, 1), 10);
        due("its kind stays", x.of(0, 0), 0);
        CryptBays taken = crypt("333333;m99@0,y50@1");
        row(taken, 0, 2, 99);
        due("taken up: all kinds", taken.looks(0, 0, 2, 0, 1, 0), 31);
        due("not taken up by less", taken.looks(0, 0, 2, 0, 1, 1), 11);
        row(taken, 0, 2, 59);
        due("young by one behind the curtain", taken.looks(1, 0, 2, 0, 1, 0), 16);
    }

    private void looksRefused() {
        CryptBays x = crypt("333333;p10@0,p20@1");
        row(x, 0, 2, 17, 24, 31);
        int[][] calls = {
            {2, 0, 2, 0, 1, 0, BAD}, {-1, 0, 2, 0, 1, 0, BAD}, {0, -1, 2, 0, 1, 0, BAD}, {0, 4, 2, 0, 1, 0, BAD},
            {0, 0, -1, 0, 1, 0, BAD}, {0, 0, 4, 0, 1, 0, BAD}, {0, 0, 2, 0, 0, 0, BAD}, {0, 0, 2, 0, 9, 0, BAD},
            {0, 0, 2, 0, 1, -1, BAD}, {0, 0, 2, 0, 1, 3, BAD}, {0, 1, 2, -1, 1, 0, NULL}, {0, 1, 9, 0, 1, 0, BAD},
            {0, 0, 1, 9, 1, 0, CAST}, {0, 0, 2, -1, 1, 0, INDEX}, {0, 0, 2, 3, 1, 0, INDEX}, {0, 0, 2, 1, 3, 0, INDEX},
            {0, 0, 2, HIGH, 8, 0, INDEX}, {0, 0, 2, LOW, 8, 2, INDEX}, {0, 0, 2, 2, 1, 0, 0}};
        for (int[] c : calls) {
            due("looks", x.looks(c[0], c[1], c[2], c[3], c[4], c[5]), c[6]);
        }
    }

    private void film() {
        check.part("promise 30");
        CryptBays x = crypt("333333;p10@0,p20@1");
        for (int lane = 0; lane < 4; lane++) {
            x.sheet(lane, lane, 24);
            due("film", x.film(0, 24, lane, lane, 0), 24);
            due("by looks", x.looks(0, lane, lane, 0, 8, 2), 10);
            due("behind 12 days: 94", x.looks(0, lane, lane, 11, 1, 2), 87);
            due("behind 13 days: 99", x.looks(0, lane, lane, 12, 1, 2), 92);
            due("behind 24 days: 99", x.looks(0, lane, lane, 23, 1, 1), 8);
        }
        x.sheet(0, 2, 5);
        due("from 3 on", x.film(1, 2, 0, 2, 3), 2);
        due("by looks", x.looks(1, 0, 2, 3, 2, 2), 20);
        due("the rest is 0", x.looks(1, 0, 2, 2, 1, 2), NONE);
        due("too long", x.film(0, 3, 0, 2, 3), INDEX);
        due("nothing is written then", x.looks(1, 0, 2, 3, 2, 2), 20);
        int[][] calls = {
            {-1, 1, 0, 2, 0, BAD}, {2, 1, 0, 2, 0, BAD}, {0, 0, 0, 2, 0, BAD}, {0, 25, 0, 2, 0, BAD}, {0, 1, -1, 2, 0, BAD},
            {0, 1, 4, 2, 0, BAD}, {0, 1, 0, -1, 0, BAD}, {0, 1, 0, 4, 0, BAD}, {0, 1, 0, 3, 9, CAST}, {0, 1, 0, 2, -1, INDEX},
            {0, 1, 0, 2, 5, INDEX}, {0, 24, 0, 2, HIGH, INDEX}, {0, 1, 0, 2, LOW, INDEX}};
        for (int[] c : calls) {
            due("film", x.film(c[0], c[1], c[2], c[3], c[4]), c[5]);
        }
        x.drop(3);
        due("missing", x.film(0, 1, 3, 0, -1), NULL);
        due("nothing is changed", x.of(0, 1), 10);
        due("no day", x.count(1), 0);
    }

    private void sheet() {
        check.part("promise 31");
        CryptBays x = new CryptBays();
        due("bytes", x.sheet(0, 0, 24), 24);
        due("longs in its place", x.sheet(0, 3, 2), 2);
        due("no more bytes", x.item(0, 0, 0, 1), CAST);
        due("two", x.item(0, 3, 2, 1), INDEX);
        due("none", x.sheet(3, 1, 0), 0);
        due("it is no item", x.item(3, 1, 0, 0), INDEX);
        due("it is there", x.drop(3), 0);
        due("sheet below", x.sheet(-1, 0, 1), BAD);
        due("sheet above", x.sheet(4, 0, 1), BAD);
        due("lane below", x.sheet(0, -1, 1), BAD);
        due("lane above", x.sheet(0, 4, 1), BAD);
        due("n above", x.sheet(0, 0, 25), BAD);
        due("n below 0", x.sheet(0, 0, -1), SIZE);
        due("far below", x.sheet(0, 0, LOW), SIZE);
        due("far above", x.sheet(0, 0, HIGH), BAD);
        due("bad ahead of size", x.sheet(4, 0, -1), BAD);
        due("it stays", x.drop(0), 2);
        x.holder(0, 0, 0);
        row(x, 1, 2, 7, 7);
        x.sheet(1, 2, 2);
        due("a new row is of 0", x.looks(0, 1, 2, 0, 1, 2), NONE);
    }

    private void drop() {
        check.part("promise 32");
        CryptBays x = new CryptBays();
        x.sheet(2, 1, 7);
        due("items", x.drop(2), 7);
        due("nothing", x.drop(2), NULL);
        due("then item", x.item(2, 1, 0, 0), NULL);
        due("below", x.drop(-1), BAD);
        due("above", x.drop(4), BAD);
    }

    private void item() {
        check.part("promise 33");
        CryptBays x = crypt("333333;p10@0");
        long[] lifted = {17 + 256, 17 + 65536, 17L + (1L << 32)};
        for (int lane = 0; lane < 3; lane++) {
            x.sheet(0, lane, 3);
            due("item", x.item(0, lane, 2, lifted[lane]), 1);
            due("its lowest bits", x.looks(0, 0, lane, 2, 1, 2), 10);
            due("item", x.item(0, lane, 2, Long.MIN_VALUE + 17), 1);
            due("its lowest bits", x.looks(0, 0, lane, 2, 1, 2), 10);
        }
        x.sheet(0, 3, 3);
        x.item(0, 3, 2, Long.MIN_VALUE + 17);
        due("longs have all", x.looks(0, 0, 3, 2, 1, 2), NONE);
        x.item(0, 3, 2, 17);
        due("longs have all", x.looks(0, 0, 3, 2, 1, 2), 10);
        x.sheet(1, 1, 1);
        x.item(1, 1, 0, 17 + 256);
        due("of shorts 273 stays", x.looks(0, 1, 1, 0, 1, 2), NONE);
        x.sheet(1, 2, 1);
        x.item(1, 2, 0, 17 + 65536);
        due("of ints 65553 stays", x.looks(0, 1, 2, 0, 1, 2), NONE);
        due("sheet below", x.item(-1, 3, 0, 0), BAD);
        due("sheet above", x.item(4, 3, 0, 0), BAD);
        due("lane below", x.item(0, -1, 0, 0), BAD);
        due("lane above", x.item(0, 4, 0, 0), BAD);
        due("bad ahead of null", x.item(2, 4, 0, 0), BAD);
        due("null ahead of index", x.item(2, 3, -1, 0), NULL);
        due("cast ahead of index", x.item(0, 2, -1, 0), CAST);
        due("below", x.item(0, 3, -1, 0), INDEX);
        due("above", x.item(0, 3, 3, 0), INDEX);
        due("far out", x.item(0, 3, HIGH, 0), INDEX);
        due("far out", x.item(0, 3, LOW, 0), INDEX);
    }

    private void copy() {
        check.part("promise 34");
        CryptBays x = crypt("333333;p10@0");
        row(x, 0, 2, 17, 24, 31, 38);
        x.sheet(1, 2, 3);
        due("two", x.copy(0, 1, 1, 0, 2), 2);
        due("they came", x.looks(0, 1, 2, 0, 2, 2), 17);
        due("no third", x.looks(0, 1, 2, 0, 3, 2), NONE);
        due("onto itself, up", x.copy(0, 0, 0, 1, 3), 3);
        due("as if taken ahead", x.looks(0, 0, 2, 1, 3, 2), 10);
        due("onto itself, down", x.copy(0, 1, 0, 0, 3), 3);
        due("as if taken ahead", x.looks(0, 0, 2, 0, 3, 2), 10);
        due("none", x.copy(0, 4, 1, 3, 0), 0);
        due("the same place", x.copy(0, 0, 0, 0, 4), 4);
        x.sheet(2, 1, 4);
        int[][] calls = {
            {-1, 0, 0, 0, 0, BAD}, {4, 0, 0, 0, 0, BAD}, {0, 0, -1, 0, 0, BAD}, {0, 0, 4, 0, 0, BAD},
            {3, 0, 4, 0, 0, BAD}, {3, -1, 0, 0, 0, NULL}, {0, -1, 3, 0, 0, NULL}, {3, 0, 3, 0, 0, NULL}, {2, 0, 3, 0, 1, NULL},
            {0, -1, 2, 0, 1, CAST}, {2, 0, 0, 0, 0, CAST}, {0, -1, 1, 0, 1, INDEX}, {0, 0, 1, -1, 1, INDEX},
            {0, 0, 1, 0, -1, INDEX}, {0, 0, 1, 0, 4, INDEX}, {1, 0, 0, 0, 4, INDEX}, {0, 5, 1, 0, 0, INDEX},
            {0, 0, 1, 4, 0, INDEX}, {0, 1, 1, 0, HIGH, INDEX}, {0, HIGH, 1, 0, 1, INDEX}, {0, 0, 1, HIGH, HIGH, INDEX},
            {0, LOW, 1, LOW, LOW, INDEX}};
        for (int[] c : calls) {
            due("copy", x.copy(c[0], c[1], c[2], c[3], c[4]), c[5]);
        }
        due("nothing is changed", x.looks(0, 1, 2, 0, 2, 2), 17);
    }
}
