import java.math.BigInteger;
import java.util.function.Supplier;

/** Boundary cases of promises 9 to 15: days, changes, talks, drifts, what is undone. */
public final class DeedsEdgeTest extends Edges {
    private static final BigInteger DRAWS = BigInteger.ONE.shiftLeft(31);
    private static final BigInteger TIMES = BigInteger.valueOf(1103515245);
    private static final BigInteger MORE = BigInteger.valueOf(12345);

    public static void main(String[] args) {
        new DeedsEdgeTest().runAll(9, 15);
    }

    /** One holder, on such a day; 8 deeds may be undone. */
    private static CryptBays late(int day) {
        CryptBays x = crypt("333333;p10@0");
        for (int d = 0; d < day / 40; d++) {
            x.days(40);
        }
        x.days(day % 40);
        return x;
    }

    // ---- 9 days

    void promise9_daysAre1To40() {
        CryptBays x = crypt("999999;p0@0");
        due("1", x.days(1), 0);
        due("used", x.of(0, 1), 1);
        due("40", x.days(40), 0);
        due("used", x.of(0, 1), 41);
        due("the day", x.count(1), 41);
        due("dues", x.count(2), 820);
        staysOutside(1, 40, BAD, "days", 0, 1);
    }

    void promise9_nobodyMayPassDaysToo() {
        CryptBays x = new CryptBays();
        due("40", x.days(40), 0);
        due("the day", x.count(1), 40);
        due("dues", x.count(2), 0);
        due("known", x.count(6), 8);
    }

    void promise9_eachDayByItselfMayBeUndone() {
        CryptBays x = crypt("999999;p0@0");
        x.days(3);
        due("known", x.count(6), 3);
        for (int left = 2; left >= 0; left--) {
            due("undo", x.undo(), left);
            due("used", x.of(0, 1), left);
            due("the day", x.count(1), left);
            due("dues", x.count(2), 20 * left);
        }
    }

    void promise9_usedIs99AtMost() {
        CryptBays x = crypt("000000;p88@0,p89@2,p98@4");
        due("a day", x.days(1), 6);
        due("98", x.of(0, 1), 98);
        due("99", x.of(1, 1), 99);
        due("108 is 99", x.of(2, 1), 99);
        due("98 has not", x.of(0, 4), 0);
        due("another day", x.days(1), 7);
        due("no more", x.of(1, 1), 99);
    }

    void promise9_whoTakesItUpPaysThatDayAndNoMore() {
        CryptBays x = crypt("000000;p98@0,p99@2,p0@4");
        x.rule(0, 1, 99);
        x.rule(2, 1, 50);
        x.rule(4, 1, 1);
        x.days(1);
        due("two pay", x.count(2), 100);
        x.days(1);
        due("one pays", x.count(2), 101);
    }

    void promise9_eachPaysTheDueOfTheBayItHas() {
        CryptBays x = crypt("999999;p0@0,p99@5");
        x.rule(0, 1, 1);
        x.rule(3, 1, 10);
        x.rule(5, 1, 99);
        x.days(1);
        due("in bay 0", x.count(2), 1);
        x.move(0, 3);
        x.days(1);
        due("in bay 3", x.count(2), 11);
        x.change(0, 1);
        x.days(1);
        due("in bay 5", x.count(2), 110);
    }

    void promise9_aDayGoesByHowAllIsAheadOfIt() {
        CryptBays young = crypt("333333;y0@2,p98@1");
        young.days(1);
        due("young beside one who takes it up this day", young.of(0, 1), 7);
        young.days(1);
        due("2 more from the next day on", young.of(0, 1), 16);
        CryptBays shy = crypt("333333;p98@1,s0@2");
        shy.days(1);
        due("shy beside one who takes it up this day", shy.of(1, 1), 6);
        shy.days(1);
        due("1 more from the next day on", shy.of(1, 1), 13);
    }

    void promise9_shyWith0MorePaysAndStays() {
        CryptBays x = crypt("999999;s98@0,s98@1");
        due("40 days", x.days(40), 0);
        due("used", x.of(0, 1), 98);
        due("dues", x.count(2), 1600);
    }

    void promise9_allSixTakeItUpAtOnce() {
        CryptBays x = crypt("000000;p98@0,p98@1,p98@2,p98@3,p98@4,p98@5");
        due("the set", x.days(1), 63);
        due("dues", x.count(2), 120);
        due("then none", x.days(1), 63);
        due("dues", x.count(2), 120);
    }

    void promise9_theDayIs9999AtMost() {
        CryptBays x = late(9959);
        due("40 to 9999", x.days(40), 1);
        due("the day", x.count(1), 9999);
        CryptBays y = late(9998);
        due("1 to 9999", y.days(1), 1);
        due("the day", y.count(1), 9999);
        staysOn(() -> late(9960), FULL, "days", 40);
        staysOn(() -> late(9999), FULL, "days", 1);
        staysOn(() -> late(9999), FULL, "days", 40);
    }

    void promise9_badComesAheadOfFull() {
        staysOn(() -> late(9999), BAD, "days", 0);
        staysOn(() -> late(9999), BAD, "days", 41);
    }

    void promise9_whenADayIsUndoneOneMayPassAgain() {
        CryptBays x = late(9999);
        due("full", x.days(1), FULL);
        due("undo", x.undo(), 7);
        due("the day", x.count(1), 9998);
        due("again", x.days(1), 1);
        due("the day", x.count(1), 9999);
        due("full", x.days(1), FULL);
        due("a crypt is of day 0", read(x, "999999;p0@0"), 1);
        due("so 40 may pass", x.days(40), 0);
    }

    // ---- 10 change

    void promise10_holdersAreThoseWhoCame() {
        CryptBays x = busy();
        due("the first and the last", x.change(0, 3), 2);
        due("the other's bay", x.of(3, 2), 4);
        due("the last and the first", x.change(3, 0), 2);
        staysOutside(0, 3, BAD, "change", 0, 0, 1);
        staysOutside(0, 3, BAD, "change", 1, 0, 1);
        staysOn(() -> crypt("333333;p0@0"), BAD, "change", 0, 1);
    }

    void promise10_alikeIsBad() {
        for (int h = -1; h <= 4; h++) {
            stays(BAD, "change", h, h);
        }
    }

    void promise10_theTwoHaveEachOthersBayAndAllElseStays() {
        CryptBays x = crypt("090909;p10@0>1,s20@5>2,m30@3>4");
        due("the first's bay", x.change(0, 1), 5);
        due("bay", x.of(0, 2), 5);
        due("bay", x.of(1, 2), 0);
        due("who", x.at(0, 2), 1);
        due("who", x.at(5, 2), 0);
        due("the third", x.of(2, 2), 3);
        due("used", x.of(0, 1), 10);
        due("likes", x.of(0, 3), 1);
        due("kind", x.of(0, 0), 0);
        due("no day", x.count(1), 0);
        due("no dues", x.count(2), 0);
    }

    void promise10_isADeedThatMayBeUndone() {
        CryptBays x = busy();
        x.change(1, 2);
        due("known", x.count(6), 7);
        due("undo", x.undo(), 6);
        alike("changed and undone", x, busy());
    }

    void promise10_whoHasTakenItUpMayBeChanged() {
        CryptBays x = crypt("333333;p99@0,p99@1");
        due("both have", x.change(0, 1), 1);
        due("the other", x.of(1, 2), 0);
    }

    // ---- 11 move

    void promise11_holdersAreThoseWhoCame() {
        due("the first", busy().move(0, 0), 4);
        due("the last", busy().move(3, 0), 2);
        staysOutside(0, 3, BAD, "move", 0, 0, 0);
    }

    void promise11_baysAre0To5() {
        CryptBays x = crypt("333333;p0@3");
        due("0", x.move(0, 0), 3);
        due("5", x.move(0, 5), 0);
        due("bay", x.of(0, 2), 5);
        staysOutside(0, 5, BAD, "move", 1, 0, 0);
    }

    void promise11_aBayThatAnotherHasIsNot() {
        stays(NOT, "move", 0, 3);
        stays(NOT, "move", 0, 2);
        stays(NOT, "move", 3, 4);
    }

    void promise11_aBayThatItselfHasIsNot() {
        stays(NOT, "move", 0, 4);
        stays(NOT, "move", 3, 2);
    }

    void promise11_ofSixNoneMayMove() {
        for (int b = 0; b < 6; b++) {
            staysOn(Edges::full, NOT, "move", 0, b);
        }
    }

    void promise11_badComesAheadOfNot() {
        stays(BAD, "move", 4, 3);
        stays(BAD, "move", -1, 3);
    }

    void promise11_theBayThatItHadIsFreeThen() {
        CryptBays x = crypt("333333;p0@0,p0@1");
        due("moved", x.move(0, 5), 0);
        due("free", x.at(0, 2), NONE);
        due("another may have it", x.move(1, 0), 1);
        due("not twice", x.move(0, 0), NOT);
        due("but the other's", x.move(0, 1), 5);
    }

    void promise11_isADeedThatMayBeUndone() {
        CryptBays x = busy();
        x.move(1, 0);
        due("known", x.count(6), 7);
        due("no day", x.count(1), busy().count(1));
        due("undo", x.undo(), 6);
        alike("moved and undone", x, busy());
    }

    void promise11_whoHasTakenItUpMayBeMoved() {
        due("moved", crypt("333333;p99@0").move(0, 5), 0);
    }

    // ---- 12 talk

    void promise12_holdersAreThoseWhoCame() {
        due("the last", full().talk(4), 70);
        staysOutside(0, 3, BAD, "talk", 0, 0);
    }

    void promise12_lessBy5And0AtLeast() {
        int[][] talks = {{98, 93}, {6, 1}, {5, 0}, {4, 0}, {1, 0}, {0, 0}};
        for (int[] t : talks) {
            CryptBays x = crypt("333333;p" + t[0] + "@0");
            due("talk to " + t[0], x.talk(0), t[1]);
            due("used", x.of(0, 1), t[1]);
            due("it may be undone", x.undo(), 0);
            due("used", x.of(0, 1), t[0]);
        }
    }

    void promise12_whoHasTakenItUpIsNot() {
        stays(NOT, "talk", 3);
        staysOn(() -> crypt("333333;p99@0"), NOT, "talk", 0);
    }

    void promise12_passesNoDayAndIsNoDue() {
        CryptBays x = busy();
        CryptBays was = busy();
        x.talk(0);
        due("the day", x.count(1), was.count(1));
        due("dues", x.count(2), was.count(2));
        due("known", x.count(6), 7);
        x.undo();
        alike("talked and undone", x, was);
    }

    // ---- 13 drift

    /** The seed from which the next draw is this one. */
    private static int seedBefore(int draw) {
        BigInteger less = BigInteger.valueOf(draw).subtract(MORE);
        return less.multiply(TIMES.modInverse(DRAWS)).mod(DRAWS).intValueExact();
    }

    /** On a day whose draw is this one, the told one of so many is talked to; nobody: -1. */
    private void drawn(int draw, int holders, int talkedTo) {
        CryptBays x = new CryptBays();
        for (int h = 0; h < holders; h++) {
            x.holder(0, 50, 0);
        }
        x.seed(seedBefore(draw));
        String told = "draw " + draw + " of " + holders;
        due(told, x.drift(1), 0);
        for (int h = 0; h < holders; h++) {
            due(told + ": holder " + h, x.of(h, 1), h == talkedTo ? 52 : 57);
        }
        due(told + " is the draw then", x.seed(0), draw);
    }

    void promise13_daysAre1To40() {
        CryptBays x = crypt("999999;p99@0");
        due("1", x.drift(1), 1);
        due("40", x.drift(40), 1);
        due("the day", x.count(1), 41);
        staysOutside(1, 40, BAD, "drift", 0, 1);
    }

    void promise13_theDayIs9999AtMost() {
        CryptBays x = late(9959);
        due("40 to 9999", x.drift(40), 1);
        due("the day", x.count(1), 9999);
        CryptBays y = late(9998);
        due("1 to 9999", y.drift(1), 1);
        due("the day", y.count(1), 9999);
        staysOn(() -> late(9960), FULL, "drift", 40);
        staysOn(() -> late(9999), FULL, "drift", 1);
    }

    void promise13_badComesAheadOfFull() {
        staysOn(() -> late(9999), BAD, "drift", 0);
        staysOn(() -> late(9999), BAD, "drift", 41);
    }

    void promise13_whoIsTalkedToIfTheDrawBy65536LeftOverBy3Is0() {
        drawn(0, 3, 0);
        drawn(65535, 3, 511 % 3);
        drawn(65536, 3, -1);
        drawn(131071, 3, -1);
        drawn(131072, 3, -1);
        drawn(196607, 3, -1);
        drawn(196608, 3, 1536 % 3);
        drawn(262143, 3, 2047 % 3);
        drawn(262144, 3, -1);
    }

    void promise13_theHolderIsTheDrawBy128LeftOverByHowManyThereAre() {
        drawn(127, 2, 0);
        drawn(128, 2, 1);
        drawn(255, 2, 1);
        drawn(256, 2, 0);
        drawn(128, 1, 0);
        drawn(128 * 5, 6, 5);
        drawn(128 * 6 - 1, 6, 5);
        drawn(128 * 6, 6, 0);
    }

    void promise13_theDrawHas31Bits() {
        // 32766 is left over by 3 as 0, 32767 as 1; by 128 the last number of the former is 16776703.
        drawn(32766 * 65536, 5, 16776192 % 5);
        drawn(32766 * 65536 + 65535, 5, 16776703 % 5);
        drawn(HIGH, 5, -1);
        drawn(32767 * 65536, 5, -1);
    }

    void promise13_aDrawThatWrapsAround() {
        CryptBays x = new CryptBays();
        x.seed(HIGH);
        x.drift(1);
        due("from the highest", x.seed(0), DRAWS.subtract(BigInteger.ONE).multiply(TIMES).add(MORE).mod(DRAWS).longValueExact());
        x.drift(1);
        due("from 0", x.seed(1), 12345);
        x.drift(1);
        due("from 1", x.seed(1), 1103527590);
    }

    void promise13_whenNobodyIsThereTheDrawGoesOn() {
        CryptBays x = new CryptBays();
        x.seed(seedBefore(0));
        due("a draw by which one would be talked to", x.drift(1), 0);
        due("the draw", x.seed(0), 0);
        due("the day", x.count(1), 1);
        due("it may be undone", x.undo(), 0);
        due("with its draw", x.seed(0), seedBefore(0));
    }

    void promise13_whoHasTakenItUpIsNoLessUsed() {
        CryptBays x = crypt("333333;p99@0,p50@1");
        x.seed(seedBefore(0));
        due("the draw is for 0", x.drift(1), 1);
        due("used", x.of(0, 1), 99);
        due("the other is not talked to for it", x.of(1, 1), 57);
        due("it may be undone", x.undo(), 0);
    }

    void promise13_theTalkIsAheadOfTheDay() {
        CryptBays x = crypt("000000;p89@0");
        x.seed(seedBefore(0));
        due("84 and 10", x.drift(1), 0);
        due("used", x.of(0, 1), 94);
        CryptBays low = crypt("000000;p3@0");
        low.seed(seedBefore(0));
        low.drift(1);
        due("0 at least, then 10", low.of(0, 1), 10);
    }

    void promise13_eachDayWithItsTalkIsOneThatMayBeUndone() {
        CryptBays x = crypt("333333;p50@0");
        x.seed(seedBefore(0));
        x.drift(2);
        due("known", x.count(6), 2);
        due("undo the second", x.undo(), 1);
        due("used", x.of(0, 1), 52);
        due("undo the first", x.undo(), 0);
        due("its talk, too", x.of(0, 1), 50);
        due("dues", x.count(2), 0);
        due("the draw", x.seed(0), seedBefore(0));
    }

    void promise13_daysThatAreNoDriftDrawNothing() {
        CryptBays x = crypt("333333;p50@0");
        x.seed(seedBefore(0));
        x.days(1);
        due("used", x.of(0, 1), 57);
        due("the draw", x.seed(0), seedBefore(0));
    }

    // ---- 14 undo

    private static CryptBays undone() {
        CryptBays x = busy();
        while (x.count(6) > 0) {
            x.undo();
        }
        return x;
    }

    void promise14_noneIsKnown() {
        staysOn(DeedsEdgeTest::undone, NONE, "undo");
        due("at first", new CryptBays().undo(), NONE);
    }

    void promise14_eightAreKnownAndOlderOnesLost() {
        for (int deeds : new int[] {7, 8, 9, 16, 17, 40}) {
            CryptBays x = crypt("999999;p0@0");
            x.days(deeds);
            int known = Math.min(8, deeds);
            for (int left = known - 1; left >= 0; left--) {
                due("of " + deeds, x.undo(), left);
                due("used", x.of(0, 1), deeds - known + left);
            }
            due("no more of " + deeds, x.undo(), NONE);
            due("it stays", x.of(0, 1), deeds - known);
        }
    }

    void promise14_whatIsUndoneMakesRoomForOthers() {
        CryptBays x = crypt("999999;p0@0");
        x.days(8);
        for (int i = 0; i < 5; i++) {
            x.undo();
        }
        due("three are left", x.count(6), 3);
        x.days(5);
        due("eight again", x.count(6), 8);
        x.days(1);
        due("eight still", x.count(6), 8);
        for (int left = 7; left >= 0; left--) {
            due("undo", x.undo(), left);
            due("the day", x.count(1), left + 1);
        }
        due("the oldest is lost", x.undo(), NONE);
    }

    private void undoes(String told, Supplier<CryptBays> scene, String name, long... args) {
        CryptBays x = scene.get();
        call(x, name, args);
        x.undo();
        alike(told, x, scene.get());
    }

    void promise14_eachKindOfDeedIsAsItHadNotBeen() {
        undoes("a day", Edges::busy, "days", 1);
        undoes("a change", Edges::busy, "change", 0, 3);
        undoes("a move", Edges::busy, "move", 2, 0);
        undoes("a talk", Edges::busy, "talk", 2);
        undoes("a day of a drift", Edges::busy, "drift", 1);
    }

    void promise14_whoTookItUpHasNot() {
        CryptBays x = crypt("000000;p98@0,s0@1");
        x.days(1);
        due("it has", x.count(3), 1);
        x.undo();
        due("it has not", x.count(3), 0);
        due("it may be talked to", x.talk(0), 93);
        due("shy is 1 less again", x.of(1, 5), 9);
    }

    void promise14_aBayThatWasLeftIsHeldAgainAndTheOtherFree() {
        CryptBays x = crypt("333333;p0@0");
        x.move(0, 3);
        x.undo();
        due("held", x.at(0, 2), 0);
        due("free", x.at(3, 2), NONE);
        x.holder(0, 0, 0);
        due("the lowest free one", x.of(1, 2), 1);
    }

    void promise14_theDrawIsAsAheadOfItWhateverWasToldSince() {
        CryptBays x = crypt("333333;p50@0");
        x.seed(5);
        x.talk(0);
        x.seed(9);
        x.days(1);
        x.seed(11);
        due("undo", x.undo(), 1);
        due("as ahead of the day", x.seed(13), 9);
        due("undo", x.undo(), 0);
        due("as ahead of the talk", x.seed(0), 5);
    }

    void promise14_lampsAndDuesAreAsToldSince() {
        CryptBays x = crypt("333333;p50@0");
        x.days(1);
        x.rule(0, 0, 0);
        x.rule(0, 1, 99);
        due("undo", x.undo(), 0);
        due("lamp", x.at(0, 0), 0);
        due("due", x.at(0, 1), 99);
        x.days(1);
        due("used", x.of(0, 1), 60);
        due("dues", x.count(2), 99);
    }

    void promise14_aCryptAndANewHolderLeaveNothing() {
        CryptBays x = quiet();
        read(x, "333333");
        due("a crypt", x.undo(), NONE);
        CryptBays y = quiet();
        y.holder(0, 0, 0);
        due("a holder", y.undo(), NONE);
        CryptBays z = quiet();
        read(z, "33333x");
        due("a fault leaves them", z.undo(), 5);
    }

    void promise14_whatIsRefusedIsNoDeed() {
        CryptBays x = busy();
        x.days(0);
        x.change(0, 0);
        x.move(0, 4);
        x.talk(3);
        x.drift(41);
        due("known", x.count(6), 6);
    }

    void promise14_whatIsUndoneIsNoDeed() {
        CryptBays x = crypt("999999;p0@0");
        x.days(2);
        due("undo", x.undo(), 1);
        due("used", x.of(0, 1), 1);
        due("undo goes on", x.undo(), 0);
        due("used", x.of(0, 1), 0);
    }

    void promise14_sheetsTapeAndImageStay() {
        CryptBays x = busy();
        x.undo();
        due("the tape", x.type('6'), 6);
        due("a sheet", x.drop(0), 3);
        due("the image", x.restore(), 1);
        due("known then", x.count(6), 2);
    }

    // ---- 15 seed

    void promise15_isNotBelow0() {
        CryptBays x = new CryptBays();
        due("0", x.seed(0), 1);
        due("the highest", x.seed(HIGH), 0);
        due("was", x.seed(1), HIGH);
        stays(BAD, "seed", -1);
        stays(BAD, "seed", LOW);
    }

    void promise15_isNoDeed() {
        CryptBays x = busy();
        x.seed(3);
        due("known", x.count(6), 6);
        due("the day", x.count(1), busy().count(1));
    }

    void promise15_theSameSeedDriftsTheSameWay() {
        CryptBays x = full();
        CryptBays y = full();
        x.seed(99);
        x.drift(5);
        y.drift(3);
        for (int i = 0; i < 3; i++) {
            y.undo();
        }
        y.seed(99);
        y.drift(5);
        for (int h = 0; h < 6; h++) {
            due("used", y.of(h, 1), x.of(h, 1));
        }
        due("the draw", y.seed(0), x.seed(0));
    }
}
