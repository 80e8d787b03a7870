/** Boundary cases of promises 16 to 28: what is foretold, the best ways to sit, odds, images. */
public final class ForetoldEdgeTest extends Edges {
    public static void main(String[] args) {
        new ForetoldEdgeTest().runAll(16, 28);
    }

    /** A call that asks changes nothing, whatever it answers. */
    private void asks(String name, long... args) {
        stays((int) call(busy(), name, args), name, args);
    }

    // ---- 16 ahead

    void promise16_daysAre0To99() {
        CryptBays x = crypt("999999;p0@0");
        due("0", x.ahead(0, 0), 0);
        due("1", x.ahead(0, 1), 1);
        due("98", x.ahead(0, 98), 98);
        due("99", x.ahead(0, 99), 99);
        staysOutside(0, 99, BAD, "ahead", 1, 0, 0);
    }

    void promise16_holdersAreThoseWhoCame() {
        due("the last", busy().ahead(3, 0), 99);
        staysOutside(0, 3, BAD, "ahead", 0, 0, 0);
    }

    void promise16_nothingIsChanged() {
        asks("ahead", 0, 0);
        asks("ahead", 1, 99);
    }

    void promise16_usedIs99AtMost() {
        CryptBays x = crypt("000000;p89@0,p88@2,p99@4");
        due("99", x.ahead(0, 1), 99);
        due("98", x.ahead(1, 1), 98);
        due("108 is 99", x.ahead(1, 2), 99);
        due("has by now", x.ahead(2, 99), 99);
    }

    void promise16_hasNoLastDay() {
        CryptBays x = day9999();
        due("no day may pass", x.days(1), FULL);
        due("but is foretold", x.ahead(0, 1), 57);
        due("99", x.ahead(0, 99), 99);
    }

    // ---- 17 then

    void promise17_daysAre0To99() {
        CryptBays x = crypt("999999;p0@0,p0@2,p0@4,p0@1,p0@3,p0@5");
        for (int b = 0; b < 6; b++) {
            x.rule(b, 1, 99);
        }
        due("nobody behind 98", x.then(98, 0), 0);
        due("all behind 99", x.then(99, 0), 63);
        due("dues behind 0", x.then(0, 1), 0);
        due("dues behind 98", x.then(98, 1), 98 * 6 * 99);
        due("dues behind 99", x.then(99, 1), 99 * 6 * 99);
        staysOutside(0, 99, BAD, "then", 0, 0, 0);
        staysOutside(0, 99, BAD, "then", 0, 0, 1);
    }

    void promise17_whatIs0Or1() {
        staysOutside(0, 1, BAD, "then", 1, 0, 0);
    }

    void promise17_nothingIsChanged() {
        asks("then", 0, 0);
        asks("then", 99, 0);
        asks("then", 99, 1);
    }

    void promise17_duesInAllHaveThoseOfNow() {
        CryptBays x = crypt("333333;p50@0");
        x.days(2);
        due("0 days", x.then(0, 1), 40);
        due("1 day", x.then(1, 1), 60);
    }

    void promise17_nobodyPaysOrTakesItUp() {
        due("the set", new CryptBays().then(99, 0), 0);
        due("dues", new CryptBays().then(99, 1), 0);
    }

    void promise17_hasNoLastDay() {
        due("who has taken it up", day9999().then(99, 0), 1);
        due("7 a day: 7 days", day9999().then(99, 1), 140);
    }

    // ---- 18 takes

    void promise18_theFirstOf0To99Days() {
        due("by now", crypt("999999;p99@0").takes(0), 0);
        due("1", crypt("999999;p98@0").takes(0), 1);
        due("98", crypt("999999;p1@0").takes(0), 98);
        due("99", crypt("999999;p0@0").takes(0), 99);
    }

    void promise18_noneBehind99Days() {
        // The shy one in bay 1 has 0 more for a day, then 1 more: used by 99 behind 100 days.
        CryptBays x = crypt("989999;s0@1,s98@2,p98@0");
        due("behind 99 it is used by 98", x.ahead(0, 99), 98);
        due("none", x.takes(0), NONE);
        due("never", crypt("999999;s98@0,s98@1").takes(0), NONE);
    }

    void promise18_hasNoLastDay() {
        due("takes", day9999().takes(0), 7);
    }

    void promise18_holdersAreThoseWhoCame() {
        stays(0, "takes", 3);
        staysOutside(0, 3, BAD, "takes", 0, 0);
    }

    void promise18_nothingIsChanged() {
        asks("takes", 0);
        asks("takes", 1);
    }

    // ---- 19 cough

    void promise19_whatIs0Or1() {
        staysOutside(0, 1, BAD, "cough", 0, 0);
    }

    void promise19_theFirstOf0To99Days() {
        CryptBays now = crypt("333333;p10@0,p10@1");
        due("0", now.cough(0), 0);
        due("who", now.cough(1), 1);
        // As in takes: behind 99 days the shy one is used by 98, as is the one beside it.
        CryptBays late = crypt("989999;s0@1,s98@2,p98@0");
        due("99", late.cough(0), 99);
        due("who", late.cough(1), 1);
        CryptBays later = crypt("989999;s0@1,s98@2,p97@0");
        due("100 is none", later.cough(0), NONE);
        due("nobody", later.cough(1), NONE);
    }

    void promise19_noneOfThemHasTakenItUp() {
        due("both have", crypt("333333;p99@0,p99@1").cough(0), NONE);
        due("both take it up at once", crypt("330000;p92@0,p95@1").cough(0), NONE);
        due("98 both", crypt("330000;p98@0,p98@1").cough(0), 0);
    }

    void promise19_onlyTwoBesideOneAnother() {
        due("two bays on", crypt("333333;p10@0,p10@2").cough(0), NONE);
        due("the row does not wrap around", crypt("333333;p10@0,p10@5").cough(0), NONE);
        due("the last two bays", crypt("333333;p10@5,p10@4").cough(0), 0);
    }

    void promise19_theLesserNumberIsFirstAndOfLikeOnesTheFirst() {
        due("the lesser number in the higher bay", crypt("333333;p10@3,p10@2").cough(1), 1);
        due("0 and 3, 1 and 2", crypt("333333;p10@0,p20@4,p20@3,p10@1").cough(1), 3);
        due("0 and 2, 0 and 1", crypt("333333;p10@1,p10@2,p10@0").cough(1), 1);
        due("4 and 5", crypt("333333;p1@0,p2@1,p3@2,p4@3,p5@4,p5@5").cough(1), 45);
    }

    void promise19_theFirstDayComesAheadOfTheFirstTwo() {
        // 1 and 2 are alike now, 0 and 1 (3 more and 7 more) behind a day.
        CryptBays x = crypt("733333;p14@0,p10@1,p10@2");
        due("days", x.cough(0), 0);
        due("who", x.cough(1), 12);
        CryptBays y = crypt("733333;p14@0,p10@1,p11@2");
        due("days", y.cough(0), 1);
        due("who", y.cough(1), 1);
    }

    void promise19_nobodyAndOneAloneDoNot() {
        due("nobody", new CryptBays().cough(0), NONE);
        due("nobody", new CryptBays().cough(1), NONE);
        due("one", crypt("333333;p10@0").cough(0), NONE);
    }

    void promise19_nothingIsChanged() {
        asks("cough", 0);
        asks("cough", 1);
    }

    // ---- 20 content

    void promise20_kIsMinus1OrAHolder() {
        CryptBays x = crypt("333333;p0@5>2,s0@4>2,m0@3>2");
        due("-1", x.content(-1), 2);
        due("the first", x.content(0), 1);
        due("the last", x.content(2), 3);
        due("not so many", x.content(3), NONE);
        stays(NONE, "content", 4);
        stays(NONE, "content", HIGH);
        stays(BAD, "content", -2);
        stays(BAD, "content", LOW);
    }

    void promise20_nobodyIs0Far() {
        staysOn(CryptBays::new, 0, "content", -1);
        staysOn(CryptBays::new, NONE, "content", 0);
        staysOn(CryptBays::new, BAD, "content", -2);
    }

    void promise20_sixWithOneWish() {
        CryptBays x = crypt("333333;p0@0>0,p0@1>0,p0@2>0,p0@3>0,p0@4>0,p0@5>0");
        due("far", x.content(-1), 15);
        for (int k = 0; k < 6; k++) {
            due("the first of all ways", x.content(k), k);
        }
        due("not so many", x.content(6), NONE);
    }

    void promise20_sixWithAWishOfTheirOwn() {
        CryptBays x = crypt("333333;p0@0>5,p0@1>4,p0@2>3,p0@3>2,p0@4>1,p0@5>0");
        due("far", x.content(-1), 0);
        for (int k = 0; k < 6; k++) {
            due("the last of all ways", x.content(k), 5 - k);
        }
    }

    void promise20_ofLikeWaysTheFirstByBaysOfHolder0() {
        CryptBays two = crypt("333333;p0@4>3,p0@5>3");
        due("far", two.content(-1), 1);
        due("2 comes ahead of 3 and 4", two.content(0), 2);
        due("then 3", two.content(1), 3);
    }

    void promise20_aFreeBayMayBeHadAndTheSeatsOfNowDoNotCount() {
        CryptBays x = crypt("333333;p99@0>5,p99@5>0");
        due("far", x.content(-1), 0);
        due("5", x.content(0), 5);
        due("0", x.content(1), 0);
        due("one alone", crypt("333333;p0@0>4").content(0), 4);
    }

    void promise20_twoHoldNoBayTogether() {
        CryptBays last = crypt("333333;p0@0>5,p0@1>5");
        due("both like the last bay", last.content(-1), 1);
        due("4", last.content(0), 4);
        due("5", last.content(1), 5);
        CryptBays first = crypt("333333;p0@3>0,p0@4>0,p0@5>0");
        due("three like the first bay", first.content(-1), 3);
        due("2", first.content(2), 2);
    }

    void promise20_nothingIsChanged() {
        asks("content", -1);
        asks("content", 0);
        asks("content", 3);
    }

    // ---- 21 swaps

    void promise21_whatIs0To2() {
        staysOutside(0, 2, BAD, "swaps", 0, 0);
        staysOn(CryptBays::new, BAD, "swaps", 3);
    }

    void promise21_noSwapIsThere() {
        CryptBays x = crypt("333333;p0@0,p0@1");
        due("how many", x.swaps(0), 0);
        due("the first", x.swaps(1), NONE);
        due("calm", x.swaps(2), 0);
        due("one alone", crypt("333333;p0@0>5").swaps(0), 0);
        due("nobody", new CryptBays().swaps(2), 0);
    }

    void promise21_bothMustBeLessFar() {
        due("both", crypt("333333;p0@0>1,p0@1>0").swaps(0), 1);
        due("one as far as before", crypt("333333;p0@0>1,p0@2>0").swaps(0), 0);
        due("the other as far as before", crypt("333333;p0@0>5,p0@2>1").swaps(0), 0);
        due("one further", crypt("333333;p0@0>5,p0@5>5").swaps(0), 0);
    }

    void promise21_theFirstIsByTheLesserNumbers() {
        due("0 and 1", crypt("333333;p0@0>5,p0@5>0").swaps(1), 1);
        due("4 and 5", crypt("333333;p0@0,p0@1,p0@2,p0@3,p0@4>5,p0@5>4").swaps(1), 45);
        due("0 and 2, not 1 and 2", crypt("333333;p0@0>5,p0@1>5,p0@5>0").swaps(1), 2);
    }

    void promise21_threeWhoLikeTheOtherEndOfThreeAreNinePairs() {
        CryptBays x = crypt("333333;p0@0>5,p0@1>5,p0@2>5,p0@3>0,p0@4>0,p0@5>0");
        due("each of 0, 1, 2 with each of 3, 4, 5", x.swaps(0), 9);
        due("the first", x.swaps(1), 3);
    }

    void promise21_ofSixInTheWrongOrderSomeWouldGoTooFar() {
        // 0 with 4 and 5, 1 with 4 and 5, 2 with 3: the others would pass the bay that one of them likes.
        CryptBays x = crypt("333333;p0@0>5,p0@1>4,p0@2>3,p0@3>2,p0@4>1,p0@5>0");
        due("how many", x.swaps(0), 5);
        due("the first", x.swaps(1), 4);
    }

    void promise21_theLongestWayToCalmIs9Swaps() {
        CryptBays x = crypt("333333;p0@3>0,p0@4>0,p0@5>0,p0@2>5,p0@1>4,p0@0>3");
        due("calm", x.swaps(2), 9);
        due("nothing is changed", x.of(0, 2), 3);
    }

    void promise21_calmIsBySwapsThatCameUpOnTheWay() {
        // 0 and 1 change, then 0 (in bay 1) and 2.
        CryptBays x = crypt("333333;p0@0>5,p0@1>0,p0@2>1");
        due("one now", x.swaps(0), 1);
        due("calm", x.swaps(2), 2);
    }

    void promise21_calmIsFromNowOn() {
        CryptBays x = crypt("333333;p0@0>5,p0@5>0");
        due("one", x.swaps(2), 1);
        x.change(0, 1);
        due("then none", x.swaps(2), 0);
        x.undo();
        due("then one", x.swaps(2), 1);
    }

    void promise21_calmAmongTheHigherNumbers() {
        due("1 and 2", crypt("333333;p0@0,p0@1>2,p0@2>1").swaps(2), 1);
        due("4 and 5", crypt("333333;p0@0,p0@1,p0@2,p0@3,p0@4>5,p0@5>4").swaps(2), 1);
        due("0 and 1, 2 and 3, 4 and 5", crypt("333333;p0@0>1,p0@1>0,p0@2>3,p0@3>2,p0@4>5,p0@5>4").swaps(2), 3);
    }

    void promise21_nothingIsChanged() {
        for (int what = 0; what <= 2; what++) {
            asks("swaps", what);
        }
    }

    // ---- 22 latest

    void promise22_holdersAreThoseWhoCame() {
        staysOutside(0, 3, BAD, "latest", 0, 0, 0, -1);
        stays(99, "latest", 3, 40, -1);
    }

    void promise22_daysAre0To40() {
        CryptBays x = crypt("999999;p10@0");
        due("0", x.latest(0, 0, -1), 10);
        due("40", x.latest(0, 40, -1), 50);
        staysOutside(0, 40, BAD, "latest", 1, 0, 0, -1);
    }

    void promise22_kIsMinus1OrAHolder() {
        CryptBays x = crypt("333333;p10@5,p20@0");
        due("-1", x.latest(0, 0, -1), 10);
        due("0", x.latest(0, 0, 0), 0);
        due("1", x.latest(0, 0, 1), 5);
        due("not so many", x.latest(0, 0, 2), NONE);
        stays(NONE, "latest", 0, 1, 4);
        stays(NONE, "latest", 0, 1, HIGH);
        stays(BAD, "latest", 0, 1, -2);
        stays(BAD, "latest", 0, 1, LOW);
    }

    void promise22_badComesAheadOfNone() {
        stays(BAD, "latest", 4, 1, 4);
        stays(BAD, "latest", 0, 41, 4);
        stays(BAD, "latest", 0, -1, HIGH);
    }

    void promise22_onlyBaysThatAreHeldAreDealt() {
        CryptBays x = crypt("099999;p10@0");
        due("no brighter bay", x.latest(0, 1, -1), 20);
        due("its bay", x.latest(0, 1, 0), 0);
    }

    void promise22_sixAreDealtInAllWays() {
        CryptBays x = crypt("000009;p0@0,p0@1,p0@2,p0@3,p0@4,p0@5");
        due("used", x.latest(0, 5, -1), 5);
        int[] want = {5, 0, 1, 2, 3, 4};
        for (int k = 0; k < 6; k++) {
            due("bay", x.latest(0, 5, k), want[k]);
        }
        due("the last one sits there", x.latest(5, 5, -1), 5);
        for (int k = 0; k < 6; k++) {
            due("bay", x.latest(5, 5, k), k);
        }
    }

    void promise22_whoIsBesideItCounts() {
        // 0 has the bright bay 5; shy, it gets no more used while 1, beside it, has not taken it up.
        CryptBays x = crypt("000089;s0@0,p0@1,p99@2,p99@3,p99@4,p99@5");
        due("used", x.latest(0, 9, -1), 0);
        due("its bay", x.latest(0, 9, 0), 5);
        due("beside it", x.latest(0, 9, 1), 4);
        for (int k = 2; k < 6; k++) {
            due("the others rising", x.latest(0, 9, k), k - 2);
        }
    }

    void promise22_theVeryLastOf720Ways() {
        // Found by a search of its own: of all ways this one alone leaves holder 0 used by 52 behind 23 days.
        CryptBays x = crypt("677649;l52@0,s9@1,s53@2,l79@3,m57@4,y77@5");
        due("used", x.latest(0, 23, -1), 52);
        for (int k = 0; k < 6; k++) {
            due("falling", x.latest(0, 23, k), 5 - k);
        }
    }

    void promise22_ofLikeWaysTheFirst() {
        CryptBays x = full();
        due("no days", x.latest(2, 0, -1), 60);
        for (int k = 0; k < 6; k++) {
            due("rising", x.latest(2, 0, k), k);
        }
        CryptBays taken = crypt("333333;p99@4,p99@2,p1@0");
        due("has taken it up", taken.latest(0, 40, -1), 99);
        due("rising", taken.latest(0, 40, 0), 0);
        due("rising", taken.latest(0, 40, 1), 2);
        due("rising", taken.latest(0, 40, 2), 4);
        CryptBays soon = crypt("000000;p50@3,p60@1");
        due("all by 99", soon.latest(0, 40, -1), 99);
        due("rising", soon.latest(0, 40, 0), 1);
    }

    void promise22_hasNoLastDay() {
        due("used", day9999().latest(0, 5, -1), 85);
    }

    void promise22_twoHoldNoBayTogether() {
        // Young, it has 2 more a day by the other one wherever it sits: 12 in bay 0, 9 in bay 1, never 7.
        CryptBays x = crypt("333333;y0@0,p99@1");
        due("used", x.latest(0, 1, -1), 9);
        due("its bay", x.latest(0, 1, 0), 1);
        due("the other's", x.latest(0, 1, 1), 0);
    }

    void promise22_nothingIsChanged() {
        asks("latest", 0, 40, -1);
        asks("latest", 2, 7, 0);
        asks("latest", 1, 0, 3);
    }

    // ---- 23 earn

    void promise23_daysAre1To40() {
        CryptBays x = crypt("999999;p0@0");
        x.rule(0, 1, 99);
        due("1", x.earn(1, -1), 99);
        due("40", x.earn(40, -1), 3960);
        staysOutside(1, 40, BAD, "earn", 0, 1, -1);
    }

    void promise23_kIsMinus1OrAHolder() {
        due("the last", full().earn(1, 5), 5);
        due("not so many", full().earn(1, 6), NONE);
        stays(NONE, "earn", 1, 4);
        stays(NONE, "earn", 1, HIGH);
        stays(BAD, "earn", 1, -2);
        stays(BAD, "earn", 1, LOW);
    }

    void promise23_badComesAheadOfNone() {
        stays(BAD, "earn", 0, 4);
        stays(BAD, "earn", 41, HIGH);
        staysOn(CryptBays::new, BAD, "earn", 0, 0);
    }

    void promise23_nobodyEarns0() {
        staysOn(CryptBays::new, 0, "earn", 1, -1);
        staysOn(CryptBays::new, 0, "earn", 40, -1);
        staysOn(CryptBays::new, NONE, "earn", 1, 0);
    }

    void promise23_sixAreDealtInAllWays() {
        CryptBays x = crypt("333333;p0@0,p0@1,p0@2,p0@3,p0@4,p99@5");
        x.rule(0, 1, 0);
        due("the one who pays nothing has the bay of no due", x.earn(1, -1), 100);
        int[] want = {1, 2, 3, 4, 5, 0};
        for (int k = 0; k < 6; k++) {
            due("bay", x.earn(1, k), want[k]);
        }
    }

    void promise23_theVeryLastOf720Ways() {
        // With 1 more a day they pay 1, 6, 11, 16, 21, 26 times: who pays most often has the dearest bay.
        CryptBays x = crypt("999999;p98@0,p93@1,p88@2,p83@3,p78@4,p73@5");
        for (int b = 0; b < 6; b++) {
            x.rule(b, 1, 60 - 10 * b);
        }
        due("dues", x.earn(40, -1), 60 * 26 + 50 * 21 + 40 * 16 + 30 * 11 + 20 * 6 + 10);
        for (int k = 0; k < 6; k++) {
            due("falling", x.earn(40, k), 5 - k);
        }
    }

    void promise23_ofLikeWaysTheFirst() {
        CryptBays x = crypt("333333;p0@5,p0@3,p0@1");
        for (int b = 0; b < 6; b++) {
            x.rule(b, 1, 0);
        }
        due("no dues", x.earn(40, -1), 0);
        due("rising", x.earn(40, 0), 1);
        due("rising", x.earn(40, 1), 3);
        due("rising", x.earn(40, 2), 5);
    }

    void promise23_onlyDuesOfTheseDaysCount() {
        CryptBays x = crypt("999999;p0@0");
        x.days(5);
        due("dues in all", x.count(2), 100);
        due("one day", x.earn(1, -1), 20);
    }

    void promise23_onlyBaysThatAreHeldAreDealt() {
        CryptBays x = crypt("999999;p0@0");
        x.rule(0, 1, 1);
        due("not the dearer ones", x.earn(1, -1), 1);
        due("its bay", x.earn(1, 0), 0);
    }

    void promise23_whoTakesItUpPaysThatDayAndNoMore() {
        CryptBays x = crypt("000000;p89@0,p88@5");
        due("1 day", x.earn(1, -1), 40);
        due("2 days", x.earn(2, -1), 60);
        due("40 days", x.earn(40, -1), 60);
    }

    void promise23_hasNoLastDay() {
        due("dues", day9999().earn(5, -1), 100);
    }

    void promise23_twoHoldNoBayTogether() {
        CryptBays x = crypt("333333;p0@0,p0@5");
        x.rule(0, 1, 10);
        x.rule(5, 1, 99);
        due("one pays 10, one 99", x.earn(1, -1), 109);
        due("rising", x.earn(1, 0), 0);
        due("rising", x.earn(1, 1), 5);
    }

    void promise23_nothingIsChanged() {
        asks("earn", 40, -1);
        asks("earn", 1, 0);
    }

    // ---- 24 dark

    void promise24_holdersAreThoseWhoCame() {
        stays(9, "dark", 3, 1);
        staysOutside(0, 3, BAD, "dark", 0, 0, 1);
    }

    void promise24_daysAre1To40() {
        due("1", crypt("333333;p98@0").dark(0, 1), 9);
        due("40: 1 a day is enough", crypt("333333;p59@0").dark(0, 40), 9);
        due("40: 1 a day is not", crypt("333333;p58@0").dark(0, 40), 8);
        staysOutside(1, 40, BAD, "dark", 1, 0, 1);
    }

    void promise24_lampsAre0To9() {
        due("0 is just enough", crypt("333333;p9@0").dark(0, 9), 0);
        due("0 is not", crypt("333333;p8@0").dark(0, 9), NONE);
        due("10 more is 1", crypt("333333;p18@0").dark(0, 9), 1);
        due("9: by now", crypt("333333;p99@0").dark(0, 1), 9);
    }

    void promise24_noLampIsDarkEnoughForASolicitor() {
        due("4 a day is enough", crypt("333333;l59@0").dark(0, 10), 6);
        due("is not", crypt("333333;l58@0").dark(0, 10), NONE);
    }

    void promise24_onlyItsOwnLampIsTold() {
        // Beside it, one of 1 a day does not take it up: the shy one has 9 a day at most.
        due("9 a day is enough", crypt("999999;s18@0,p0@1").dark(0, 9), 0);
        due("is not", crypt("999999;s17@0,p0@1").dark(0, 9), NONE);
    }

    void promise24_hasNoLastDay() {
        due("dark", day9999().dark(0, 7), 3);
    }

    void promise24_nothingIsChanged() {
        asks("dark", 0, 1);
        asks("dark", 1, 40);
    }

    // ---- 25 spare

    void promise25_holdersAreThoseWhoCame() {
        stays(NONE, "spare", 3, 1);
        staysOutside(0, 3, BAD, "spare", 0, 0, 1);
    }

    void promise25_daysAre1To40() {
        due("1", crypt("999999;p97@0").spare(0, 1), 0);
        due("1: one talk", crypt("999999;p98@0").spare(0, 1), 1);
        due("40", crypt("999999;p58@0").spare(0, 40), 0);
        due("40: one talk", crypt("999999;p59@0").spare(0, 40), 1);
        staysOutside(1, 40, BAD, "spare", 1, 0, 1);
    }

    void promise25_talksAre0To20() {
        due("19: 3 and 91", crypt("333333;p98@0").spare(0, 13), 19);
        due("20: 0 and 96, as 3 and 96 is 99", crypt("222222;p98@0").spare(0, 12), 20);
        due("20 are not enough: 0 and 99", crypt("111111;p98@0").spare(0, 11), NONE);
    }

    void promise25_talksFrom0OnAreNoHelp() {
        due("0 and 100", crypt("000000;p0@0").spare(0, 10), NONE);
        due("0 and 90", crypt("000000;p0@0").spare(0, 9), 0);
        due("4 less is enough", crypt("000000;p9@0").spare(0, 9), 1);
        due("0 at least", crypt("000000;p12@0").spare(0, 9), 1);
    }

    void promise25_whoHasTakenItUpIsNone() {
        due("by now", crypt("999999;p99@0").spare(0, 1), NONE);
    }

    void promise25_hasNoLastDay() {
        due("spare", day9999().spare(0, 7), 1);
    }

    void promise25_nothingIsChanged() {
        asks("spare", 0, 1);
        asks("spare", 1, 40);
    }

    // ---- 26 coughs

    private void odds(int above, int below, CryptBays x, int u, int n, int c) {
        due("above, u " + u + " n " + n + " c " + c, x.coughs(0, u, n, c, 0), above);
        due("below, u " + u + " n " + n + " c " + c, x.coughs(0, u, n, c, 1), below);
    }

    void promise26_holdersAreThoseWhoCame() {
        stays(1, "coughs", 3, 99, 6, 10, 0);
        staysOutside(0, 3, BAD, "coughs", 0, 0, 0, 0, 0, 0);
    }

    void promise26_uIs0To99() {
        CryptBays x = crypt("333333;p0@0");
        odds(1, 1, x, 0, 6, 10);
        odds(0, 1, x, 99, 6, 0);
        odds(1, 1, crypt("333333;p99@0"), 99, 0, 5);
        staysOutside(0, 99, BAD, "coughs", 1, 0, 0, 0, 0, 0);
    }

    void promise26_daysAre0To6() {
        CryptBays x = crypt("333333;p50@0");
        odds(1, 1, x, 50, 0, 5);
        odds(0, 1, x, 51, 0, 5);
        odds(531441, 1000000, x, 92, 6, 1);
        odds(999999, 1000000, x, 63, 6, 1);
        odds(1, 1000000, x, 92, 6, 9);
        staysOutside(0, 6, BAD, "coughs", 2, 0, 0, 0, 0, 0);
    }

    void promise26_cIs0To10() {
        CryptBays x = crypt("333333;p50@0");
        odds(1, 1, x, 57, 1, 0);
        odds(9, 10, x, 57, 1, 1);
        odds(1, 10, x, 57, 1, 9);
        odds(0, 1, x, 57, 1, 10);
        odds(1, 1, x, 52, 1, 10);
        odds(1, 1, x, 92, 6, 0);
        odds(0, 1, x, 63, 6, 10);
        odds(1, 1, x, 62, 6, 10);
        staysOutside(0, 10, BAD, "coughs", 3, 0, 0, 0, 0, 0);
    }

    void promise26_whatIs0Or1() {
        staysOutside(0, 1, BAD, "coughs", 4, 0, 0, 0, 0, 0);
    }

    void promise26_theFractionIsInLowestTerms() {
        CryptBays x = crypt("333333;p50@0");
        odds(1, 2, x, 57, 1, 5);
        odds(4, 5, x, 57, 1, 2);
        odds(3, 4, x, 59, 2, 5);
        odds(63, 64, x, 63, 6, 5);
        odds(1, 64, x, 92, 6, 5);
    }

    void promise26_lessBy5Is0AtLeast() {
        CryptBays x = crypt("999999;p3@0");
        odds(1, 1, x, 1, 1, 5);
        odds(1, 2, x, 2, 1, 5);
        odds(1, 2, x, 4, 1, 5);
        odds(0, 1, x, 5, 1, 5);
        odds(1, 1, x, 1, 6, 10);
        odds(0, 1, x, 2, 6, 10);
    }

    void promise26_whoHasTakenItUpCoughsNoMore() {
        CryptBays x = crypt("999999;p98@0");
        odds(1, 2, x, 99, 1, 5);
        odds(1, 2, x, 99, 2, 5);
        odds(1, 2, x, 99, 5, 5);
        // Talked to on the first day alone, it has 99 behind the sixth.
        odds(33, 64, x, 99, 6, 5);
        odds(1, 1, crypt("999999;p99@0"), 99, 6, 10);
    }

    void promise26_othersDaysPassToo() {
        // Shy beside one who takes it up behind a day: 6 more, then 7 more.
        CryptBays x = crypt("333333;s50@0,p98@1");
        odds(1, 1, x, 63, 2, 0);
        odds(0, 1, x, 64, 2, 0);
        odds(1, 4, x, 63, 2, 5);
    }

    void promise26_hasNoLastDay() {
        odds(1, 2, day9999(), 57, 1, 5);
    }

    void promise26_nothingIsChanged() {
        asks("coughs", 0, 50, 6, 5, 0);
        asks("coughs", 1, 50, 6, 3, 1);
    }

    // ---- 27 image, 28 restore

    /** All but sheets and the tape is made other than it was. */
    private static void upset(CryptBays x) {
        x.holder(4, 99, 4);
        x.rule(0, 0, 8);
        x.rule(5, 1, 77);
        x.seed(123456);
        x.drift(9);
        x.change(0, 4);
        x.talk(1);
    }

    void promise27_answers1AndChangesNothingElse() {
        CryptBays x = busy();
        CryptBays was = busy();
        due("image", x.image(), 1);
        due("again", x.image(), 1);
        for (int what = 0; what <= 6; what++) {
            due("count " + what, x.count(what), was.count(what));
        }
        due("the draw", x.seed(0), was.seed(0));
        due("the tape", x.type('6'), 6);
        due("a sheet", x.drop(0), 3);
    }

    void promise27_ofANewObject() {
        CryptBays x = new CryptBays();
        due("image", x.image(), 1);
        upset(x);
        due("restore", x.restore(), 1);
        CryptBays fresh = new CryptBays();
        fresh.image();
        alike("nobody again", x, fresh);
    }

    void promise27_theLatestOneIsKept() {
        CryptBays x = crypt("999999;p0@0");
        x.image();
        x.days(1);
        x.image();
        x.days(1);
        x.restore();
        due("the day of the second image", x.count(1), 1);
        due("with what may be undone", x.count(6), 1);
    }

    void promise27_keepsAllEightThatMayBeUndone() {
        CryptBays x = crypt("999999;p0@0");
        x.days(11);
        x.image();
        x.days(5);
        x.restore();
        for (int left = 7; left >= 0; left--) {
            due("undo", x.undo(), left);
            due("used", x.of(0, 1), 3 + left);
        }
        due("none", x.undo(), NONE);
    }

    void promise28_noneIsThere() {
        staysOn(CryptBays::new, NONE, "restore");
        staysOn(Edges::full, NONE, "restore");
    }

    void promise28_allIsAsItWasThen() {
        CryptBays x = busy();
        x.image();
        upset(x);
        due("restore", x.restore(), 1);
        CryptBays was = busy();
        was.image();
        alike("restored", x, was);
    }

    void promise28_fromSixToNobodyAndBack() {
        CryptBays x = full();
        x.image();
        read(x, "000000");
        due("nobody", x.count(0), 0);
        due("restore", x.restore(), 1);
        CryptBays was = full();
        was.image();
        alike("restored", x, was);
    }

    void promise28_theImageStaysAndMayBeRestoredAgain() {
        CryptBays x = busy();
        due("once", x.restore(), 1);
        upset(x);
        due("again", x.restore(), 1);
        upset(x);
        due("and again", x.restore(), 1);
        CryptBays was = busy();
        was.restore();
        alike("restored three times", x, was);
    }

    void promise28_sheetsAndTheTapeAreAsTheyAreNow() {
        CryptBays x = busy();
        x.image();
        x.type('6');
        x.drop(0);
        x.sheet(3, 1, 2);
        x.item(3, 1, 1, 44);
        x.item(1, 0, 0, 33);
        x.restore();
        CryptBays want = busy();
        want.image();
        want.type('6');
        want.drop(0);
        want.sheet(3, 1, 2);
        want.item(3, 1, 1, 44);
        want.item(1, 0, 0, 33);
        alike("sheets and tape", x, want);
    }

    void promise28_whatIsDoneSinceIsNotSeenInTheImage() {
        CryptBays x = busy();
        x.image();
        for (int i = 0; i < 6; i++) {
            x.undo();
        }
        x.days(8);
        x.restore();
        CryptBays was = busy();
        was.image();
        alike("undone and passed since", x, was);
    }
}
