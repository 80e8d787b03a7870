/** Boundary cases of promises 29 to 34: looks, films, sheets that may be missing. */
public final class SheetsEdgeTest extends Edges {
    public static void main(String[] args) {
        new SheetsEdgeTest().runAll(29, 34);
    }

    // In the busy crypt sheet 0 has 3 ints, sheet 1 has 2 bytes, sheet 2 no long, sheet 3 is missing.

    /** A plain one with 1 more a day, so that items can be read by looks. */
    private static CryptBays reader() {
        return crypt("999999;p0@0");
    }

    private void items(String told, CryptBays x, int sheet, int lane, int... want) {
        for (int i = 0; i < want.length; i++) {
            due(told + ", item " + i, itemOf(x, sheet, lane, i), want[i]);
        }
        due(told + ", no item " + want.length, x.item(sheet, lane, want.length, 0), INDEX);
    }

    // ---- 29 looks

    void promise29_holdersAreThoseWhoCame() {
        stays(0, "looks", 3, 0, 2, 0, 1, 0);
        staysOutside(0, 3, BAD, "looks", 0, 0, 0, 2, 0, 1, 0);
    }

    void promise29_sheetsAre0To3() {
        // Holder 0 is used by 47, and by 3 more with two beside it, were it shy or a solicitor: 50.
        stays(2 + 8, "looks", 0, 0, 2, 0, 1, 0);
        stays(NULL, "looks", 0, 3, 2, 0, 1, 0);
        staysOutside(0, 3, BAD, "looks", 1, 0, 0, 2, 0, 1, 0);
    }

    void promise29_lanesAre0To3() {
        stays(CAST, "looks", 0, 0, 0, 0, 1, 0);
        stays(CAST, "looks", 0, 0, 3, 0, 1, 0);
        staysOutside(0, 3, BAD, "looks", 2, 0, 0, 2, 0, 1, 0);
    }

    void promise29_daysAre1To8() {
        CryptBays x = reader();
        row(x, 0, 2, 1, 2, 3, 4, 5, 6, 7, 8, 9);
        due("1", x.looks(0, 0, 2, 0, 1, 2), 0);
        due("8", x.looks(0, 0, 2, 0, 8, 2), 0);
        due("8 from 1 on", x.looks(0, 0, 2, 1, 8, 2), 1);
        x.item(0, 2, 7, 9);
        due("the eighth counts", x.looks(0, 0, 2, 0, 8, 2), NONE);
        due("seven", x.looks(0, 0, 2, 0, 7, 2), 0);
        staysOutside(1, 8, BAD, "looks", 4, 0, 0, 2, 0, 1, 0);
    }

    void promise29_whatIs0To2() {
        staysOutside(0, 2, BAD, "looks", 5, 0, 0, 2, 0, 1, 0);
    }

    void promise29_itemsMustBeThere() {
        stays(0, "looks", 0, 0, 2, 2, 1, 0);
        stays(0, "looks", 0, 0, 2, 0, 3, 0);
        stays(INDEX, "looks", 0, 0, 2, 0, 4, 0);
        stays(INDEX, "looks", 0, 0, 2, 1, 3, 0);
        staysOutside(0, 2, INDEX, "looks", 3, 0, 0, 2, 0, 1, 0);
        staysOutside(0, 0, INDEX, "looks", 3, 0, 0, 2, 0, 3, 2);
        CryptBays x = row(reader(), 0, 2, new long[24]);
        due("the last 8 of 24", x.looks(0, 0, 2, 16, 8, 1), 0);
        due("one too far", x.looks(0, 0, 2, 17, 8, 1), INDEX);
    }

    void promise29_anIndexDoesNotWrapAround() {
        for (int n = 1; n <= 8; n++) {
            stays(INDEX, "looks", 0, 0, 2, HIGH, n, 1);
            stays(INDEX, "looks", 0, 0, 2, HIGH - n + 1, n, 1);
            stays(INDEX, "looks", 0, 0, 2, -n, n, 1);
        }
    }

    void promise29_aRowOfNoItem() {
        stays(INDEX, "looks", 0, 2, 3, 0, 1, 0);
        stays(CAST, "looks", 0, 2, 2, 0, 1, 0);
    }

    void promise29_badNullCastIndexInThisOrder() {
        stays(BAD, "looks", 4, 3, 0, -1, 1, 0);
        stays(BAD, "looks", 0, 3, 4, -1, 1, 0);
        stays(BAD, "looks", 0, 3, 0, -1, 9, 0);
        stays(BAD, "looks", 0, 3, 0, -1, 1, 3);
        stays(NULL, "looks", 0, 3, 0, -1, 1, 0);
        stays(CAST, "looks", 0, 0, 1, -1, 1, 0);
    }

    void promise29_kindsAreASetOfNoneToAll() {
        CryptBays x = row(crypt("333333;p10@1,p99@0,p0@2"), 0, 2, 11, 14, 16, 17, 19, 99);
        due("none: 11", x.looks(0, 0, 2, 0, 1, 0), 0);
        due("solicitor: 14", x.looks(0, 0, 2, 1, 1, 0), 8);
        due("shy: 16", x.looks(0, 0, 2, 2, 1, 0), 2);
        due("plain and miss: 17", x.looks(0, 0, 2, 3, 1, 0), 1 + 4);
        due("young: 19", x.looks(0, 0, 2, 4, 1, 0), 16);
        due("all: 99 of one who has taken it up", x.looks(1, 0, 2, 5, 1, 0), 31);
        due("none: 99", x.looks(0, 0, 2, 5, 1, 0), 0);
    }

    void promise29_numbersAre0To99() {
        CryptBays x = row(reader(), 0, 2, 0, 1, 98, 99, 100, -1);
        due("0 is by no number", x.looks(0, 0, 2, 0, 1, 1), 0);
        due("none", x.looks(0, 0, 2, 0, 1, 2), NONE);
        due("1 is by one", x.looks(0, 0, 2, 1, 1, 1), 1);
        due("0", x.looks(0, 0, 2, 1, 1, 2), 0);
        due("98 is by one", x.looks(0, 0, 2, 2, 1, 1), 1);
        due("97", x.looks(0, 0, 2, 2, 1, 2), 97);
        due("99 is by two", x.looks(0, 0, 2, 3, 1, 1), 2);
        due("98, who has not, and 99, who has", x.looks(0, 0, 2, 3, 1, 2), 98);
        due("100 is by none", x.looks(0, 0, 2, 4, 1, 1), 0);
        due("none", x.looks(0, 0, 2, 4, 1, 2), NONE);
        due("-1 is by none", x.looks(0, 0, 2, 5, 1, 1), 0);
        due("none", x.looks(0, 0, 2, 5, 1, 2), NONE);
    }

    void promise29_mostNumbersAre16() {
        CryptBays x = row(crypt("000000;y0@0,p99@1"), 0, 0, 99);
        due("84 .. 99", x.looks(0, 0, 0, 0, 1, 1), 16);
        due("84", x.looks(0, 0, 0, 0, 1, 2), 84);
    }

    void promise29_whoHasTakenItUpMightBeUsedByLess() {
        CryptBays x = row(crypt("000000;p99@0"), 0, 0, 99, 60);
        due("89 .. 99", x.looks(0, 0, 0, 0, 1, 1), 11);
        due("50", x.looks(0, 0, 0, 1, 1, 2), 50);
        due("but not by its kind", x.looks(0, 0, 0, 1, 1, 0), 0);
    }

    void promise29_usedByLessItHasNotTakenItUpForThoseBesideIt() {
        // The young one (1 more a day) takes it up behind two days; beside one who has, it would behind one.
        CryptBays x = row(crypt("393333;s99@0,y97@1"), 0, 2, 56, 62, 69);
        due("50", x.looks(0, 0, 2, 0, 3, 2), 50);
        due("no other", x.looks(0, 0, 2, 0, 3, 1), 1);
    }

    void promise29_hasNoLastDay() {
        due("by looks", row(day9999(), 0, 2, 57, 64).looks(0, 0, 2, 0, 2, 2), 50);
    }

    void promise29_shyWith0MoreStaysAt0() {
        CryptBays x = row(crypt("999999;s5@0,p0@1"), 0, 2, 0, 0, 0);
        due("0, 0, 0", x.looks(0, 0, 2, 0, 3, 1), 1);
        due("0", x.looks(0, 0, 2, 0, 3, 2), 0);
    }

    void promise29_anItemIsTakenWhole() {
        CryptBays x = row(reader(), 0, 3, 50L + (1L << 32), 50L + (1L << 8), Long.MIN_VALUE + 50, 50);
        for (int i = 0; i < 3; i++) {
            due("more than an int", x.looks(0, 0, 3, i, 1, 1), 0);
        }
        due("50", x.looks(0, 0, 3, 3, 1, 2), 49);
    }

    void promise29_nothingIsChanged() {
        for (int what = 0; what <= 2; what++) {
            stays((int) call(busy(), "looks", 0, 0, 2, 0, 3, what), "looks", 0, 0, 2, 0, 3, what);
        }
    }

    // ---- 30 film

    void promise30_holdersAreThoseWhoCame() {
        due("the last", busy().film(3, 1, 0, 2, 0), 1);
        staysOutside(0, 3, BAD, "film", 0, 0, 1, 0, 2, 0);
    }

    void promise30_daysAre1To24() {
        CryptBays x = reader();
        x.sheet(0, 2, 24);
        due("1", x.film(0, 1, 0, 2, 0), 1);
        due("1 is behind a day", itemOf(x, 0, 2, 0), 1);
        due("the next is as it was", x.looks(0, 0, 2, 1, 1, 1), 0);
        due("24", x.film(0, 24, 0, 2, 0), 24);
        for (int i = 0; i < 24; i++) {
            due("behind " + (i + 1), itemOf(x, 0, 2, i), i + 1);
        }
        staysOutside(1, 24, BAD, "film", 1, 0, 1, 0, 2, 0);
    }

    void promise30_sheetsAndLanesAre0To3() {
        stays(CAST, "film", 0, 1, 0, 0, 0);
        stays(CAST, "film", 0, 1, 0, 3, 0);
        stays(NULL, "film", 0, 1, 3, 0, 0);
        staysOutside(0, 3, BAD, "film", 2, 0, 1, 0, 2, 0);
        staysOutside(0, 3, BAD, "film", 3, 0, 1, 0, 2, 0);
    }

    void promise30_itemsMustBeThereElseNoneIsWritten() {
        due("the last", busy().film(0, 1, 0, 2, 2), 1);
        due("all", busy().film(0, 3, 0, 2, 0), 3);
        stays(INDEX, "film", 0, 4, 0, 2, 0);
        stays(INDEX, "film", 0, 24, 0, 2, 0);
        stays(INDEX, "film", 0, 2, 0, 2, 2);
        stays(INDEX, "film", 0, 3, 0, 2, 1);
        stays(INDEX, "film", 0, 2, 0, 2, -1);
        staysOutside(0, 2, INDEX, "film", 4, 0, 1, 0, 2, 0);
        stays(INDEX, "film", 0, 24, 0, 2, HIGH);
        stays(INDEX, "film", 0, 24, 0, 2, HIGH - 23);
        stays(INDEX, "film", 0, 1, 2, 3, 0);
    }

    void promise30_badNullCastIndexInThisOrder() {
        stays(BAD, "film", 4, 1, 3, 0, -1);
        stays(BAD, "film", 0, 25, 3, 0, -1);
        stays(BAD, "film", 0, 1, 3, 4, -1);
        stays(NULL, "film", 0, 1, 3, 0, -1);
        stays(CAST, "film", 0, 1, 0, 1, -1);
    }

    void promise30_onlyItsItemsAreWritten() {
        CryptBays x = row(reader(), 0, 1, 40, 41, 42, 43);
        due("two from 1 on", x.film(0, 2, 0, 1, 1), 2);
        items("film", x, 0, 1, 40, 1, 2, 43);
    }

    void promise30_99ComesToEveryLane() {
        CryptBays x = crypt("000000;p98@0");
        for (int lane = 0; lane < 4; lane++) {
            x.sheet(lane, lane, 2);
            due("film", x.film(0, 2, lane, lane, 0), 2);
            due("99, 99", x.looks(0, lane, lane, 0, 2, 2), 89);
        }
    }

    void promise30_hasNoLastDay() {
        CryptBays x = day9999();
        x.sheet(0, 2, 2);
        due("film", x.film(0, 2, 0, 2, 0), 2);
        due("57, 64", x.looks(0, 0, 2, 0, 2, 2), 50);
    }

    void promise30_nothingButTheSheetIsChanged() {
        CryptBays x = busy();
        x.film(0, 1, 0, 2, 0);
        x.item(0, 2, 0, 50);
        alike("film", x, busy());
    }

    // ---- 31 sheet

    void promise31_sheetsAre0To3() {
        CryptBays x = reader();
        due("0", x.sheet(0, 0, 1), 1);
        due("3", x.sheet(3, 0, 2), 2);
        due("1 is missing", x.drop(1), NULL);
        due("2 is missing", x.drop(2), NULL);
        due("0 has", x.drop(0), 1);
        due("3 has", x.drop(3), 2);
        staysOutside(0, 3, BAD, "sheet", 0, 0, 0, 1);
    }

    void promise31_lanesAre0To3() {
        CryptBays x = reader();
        for (int lane = 0; lane < 4; lane++) {
            due("a row", x.sheet(0, lane, 1), 1);
            for (int other = 0; other < 4; other++) {
                due("taken as lane " + other, x.item(0, other, 0, 1), other == lane ? 1 : CAST);
            }
        }
        staysOutside(0, 3, BAD, "sheet", 1, 0, 0, 1);
    }

    void promise31_itemsAre0To24() {
        CryptBays x = reader();
        due("0", x.sheet(0, 2, 0), 0);
        due("no item", x.item(0, 2, 0, 1), INDEX);
        due("24", x.sheet(0, 2, 24), 24);
        due("the last", x.item(0, 2, 23, 1), 1);
        due("no more", x.item(0, 2, 24, 1), INDEX);
        stays(BAD, "sheet", 0, 2, 25);
        stays(BAD, "sheet", 0, 2, HIGH);
    }

    void promise31_below0IsSize() {
        for (int lane = 0; lane < 4; lane++) {
            stays(SIZE, "sheet", 0, lane, -1);
            stays(SIZE, "sheet", 0, lane, LOW);
            stays(SIZE, "sheet", 3, lane, -1);
        }
    }

    void promise31_badComesAheadOfSize() {
        stays(BAD, "sheet", 4, 0, -1);
        stays(BAD, "sheet", -1, 0, -1);
        stays(BAD, "sheet", 0, 4, -1);
        stays(BAD, "sheet", 0, -1, LOW);
    }

    void promise31_aNewRowIsOfNoughts() {
        // Shy with 0 more a day: a 0 is by the number 0.
        CryptBays x = crypt("999999;s5@0,p0@1");
        for (int lane = 0; lane < 4; lane++) {
            row(x, 0, lane, 5, 5, 5);
            due("a new row", x.sheet(0, lane, 4), 4);
            due("noughts", x.looks(0, 0, lane, 0, 4, 2), 0);
        }
        x.sheet(1, 0, 24);
        x.film(0, 24, 1, 0, 0);
        x.sheet(1, 0, 3);
        x.sheet(1, 0, 24);
        due("behind a shorter one", x.looks(0, 1, 0, 16, 8, 2), 0);
    }

    void promise31_otherSheetsAndAllElseStay() {
        CryptBays x = busy();
        x.sheet(0, 1, 9);
        row(x, 0, 2, 50, 60, 70);
        alike("a sheet laid and laid again", x, busy());
    }

    // ---- 32 drop

    void promise32_sheetsAre0To3() {
        due("0", busy().drop(0), 3);
        stays(NULL, "drop", 3);
        staysOutside(0, 3, BAD, "drop", 0, 0);
    }

    void promise32_howManyItemsItHad() {
        CryptBays x = reader();
        x.sheet(3, 3, 24);
        due("24", x.drop(3), 24);
        due("then nothing", x.drop(3), NULL);
        x.sheet(3, 3, 0);
        due("0", x.drop(3), 0);
        due("then nothing", x.drop(3), NULL);
    }

    void promise32_whatIsMissingIsNull() {
        CryptBays x = busy();
        x.drop(0);
        due("item", x.item(0, 2, 0, 1), NULL);
        due("looks", x.looks(0, 0, 2, 0, 1, 0), NULL);
        due("film", x.film(0, 1, 0, 2, 0), NULL);
        due("copy from", x.copy(0, 0, 1, 0, 0), NULL);
        due("copy to", x.copy(1, 0, 0, 0, 0), NULL);
        due("another stays", x.drop(1), 2);
    }

    void promise32_allElseStays() {
        CryptBays x = busy();
        x.drop(0);
        row(x, 0, 2, 50, 60, 70);
        alike("dropped and laid again", x, busy());
    }

    // ---- 33 item

    void promise33_sheetsAndLanesAre0To3() {
        stays(NULL, "item", 3, 2, 0, 1);
        stays(CAST, "item", 0, 0, 0, 1);
        stays(CAST, "item", 0, 3, 0, 1);
        staysOutside(0, 3, BAD, "item", 0, 0, 2, 0, 1);
        staysOutside(0, 3, BAD, "item", 1, 0, 2, 0, 1);
    }

    void promise33_itemsMustBeThere() {
        CryptBays x = row(reader(), 0, 2, 50, 60, 70);
        due("the first", x.item(0, 2, 0, 11), 1);
        due("the last", x.item(0, 2, 2, 13), 1);
        items("as told", x, 0, 2, 11, 60, 13);
        staysOutside(0, 2, INDEX, "item", 2, 0, 2, 0, 1);
        stays(INDEX, "item", 2, 3, 0, 1);
    }

    void promise33_badNullCastIndexInThisOrder() {
        stays(BAD, "item", 4, 0, -1, 1);
        stays(BAD, "item", 3, 4, -1, 1);
        stays(NULL, "item", 3, 0, -1, 1);
        stays(CAST, "item", 0, 1, -1, 1);
        stays(CAST, "item", 2, 2, 0, 1);
    }

    void promise33_itsLowestBitsWrapAround() {
        int[] bits = {8, 16, 32};
        for (int lane = 0; lane < 3; lane++) {
            CryptBays x = row(reader(), 0, lane, 0, 0);
            long step = 1L << bits[lane];
            for (long v : new long[] {50, 50 + step, 50 - step, 50 + 3 * step, Long.MIN_VALUE + 50, (-1L << bits[lane]) + 50}) {
                x.item(0, lane, 0, 7);
                due("item " + v, x.item(0, lane, 0, v), 1);
                due("50 of " + v, itemOf(x, 0, lane, 0), 50);
            }
            for (long v : new long[] {-1, step - 1, step / 2, 50 + step / 2, -50, Long.MAX_VALUE}) {
                due("item " + v, x.item(0, lane, 0, v), 1);
                due("below 0: " + v, x.looks(0, 0, lane, 0, 1, 1), 0);
            }
        }
    }

    void promise33_allBitsOfALongAreKept() {
        CryptBays x = row(reader(), 0, 3, 0);
        for (int bit = 7; bit < 64; bit++) {
            x.item(0, 3, 0, 50 + (1L << bit));
            due("bit " + bit, x.looks(0, 0, 3, 0, 1, 1), 0);
        }
        x.item(0, 3, 0, 50);
        due("50", itemOf(x, 0, 3, 0), 50);
    }

    void promise33_allBitsOfItsLaneAreKept() {
        int[] bits = {8, 16, 32};
        for (int lane = 0; lane < 3; lane++) {
            CryptBays x = row(reader(), 0, lane, 0);
            for (int bit = 7; bit < bits[lane]; bit++) {
                x.item(0, lane, 0, 50 + (1L << bit));
                due("lane " + lane + ", bit " + bit, x.looks(0, 0, lane, 0, 1, 1), 0);
            }
        }
    }

    void promise33_allElseStays() {
        CryptBays x = busy();
        x.item(0, 2, 1, 77);
        x.item(0, 2, 1, 60);
        alike("an item told twice", x, busy());
    }

    // ---- 34 copy

    void promise34_sheetsAre0To3() {
        stays(NULL, "copy", 3, 0, 0, 0, 0);
        stays(NULL, "copy", 0, 0, 3, 0, 0);
        staysOutside(0, 3, BAD, "copy", 0, 0, 0, 0, 0, 1);
        staysOutside(0, 3, BAD, "copy", 2, 0, 0, 0, 0, 1);
    }

    void promise34_eitherMayBeMissing() {
        stays(NULL, "copy", 0, 0, 3, 0, 1);
        stays(NULL, "copy", 3, 0, 0, 0, 1);
        stays(NULL, "copy", 3, 0, 3, 0, 0);
    }

    void promise34_lanesMustBeAlike() {
        stays(CAST, "copy", 0, 0, 1, 0, 1);
        stays(CAST, "copy", 1, 0, 0, 0, 1);
        stays(CAST, "copy", 0, 0, 2, 0, 0);
        CryptBays x = reader();
        for (int a = 0; a < 4; a++) {
            for (int b = 0; b < 4; b++) {
                x.sheet(0, a, 1);
                x.sheet(1, b, 1);
                due("lanes " + a + " " + b, x.copy(0, 0, 1, 0, 1), a == b ? 1 : CAST);
            }
        }
    }

    void promise34_badNullCastIndexInThisOrder() {
        stays(BAD, "copy", 4, -1, 3, -1, -1);
        stays(BAD, "copy", 3, -1, 4, -1, -1);
        stays(NULL, "copy", 3, -1, 0, -1, -1);
        stays(NULL, "copy", 0, -1, 3, -1, -1);
        stays(CAST, "copy", 0, -1, 1, -1, -1);
    }

    private static CryptBays twoRows() {
        return row(row(reader(), 0, 2, 10, 20, 30), 1, 2, 40, 50);
    }

    private void refused(int from, int i, int to, int j, int n) {
        staysOn(SheetsEdgeTest::twoRows, INDEX, "copy", from, i, to, j, n);
    }

    void promise34_itemsMustBeThereOnBothSides() {
        due("all of the shorter", twoRows().copy(1, 0, 0, 0, 2), 2);
        due("at the end of the longer", twoRows().copy(1, 0, 0, 1, 2), 2);
        due("from the end of the longer", twoRows().copy(0, 1, 1, 0, 2), 2);
        refused(0, 0, 1, 0, 3);
        refused(1, 0, 0, 0, 3);
        refused(1, 0, 0, 2, 2);
        refused(0, 2, 1, 0, 2);
        refused(0, -1, 1, 0, 1);
        refused(0, 0, 1, -1, 1);
        refused(0, 3, 1, 0, 1);
        refused(0, 0, 1, 2, 1);
    }

    void promise34_noItemsMayComeFromTheEndButNotBehindIt() {
        due("0 from the end to the end", twoRows().copy(0, 3, 1, 2, 0), 0);
        due("0 from the start", twoRows().copy(0, 0, 1, 0, 0), 0);
        staysOn(SheetsEdgeTest::twoRows, 0, "copy", 0, 3, 1, 2, 0);
        refused(0, 4, 1, 0, 0);
        refused(0, 0, 1, 3, 0);
        refused(0, -1, 1, 0, 0);
        refused(0, 0, 1, -1, 0);
        due("rows of no item", busy().copy(2, 0, 2, 0, 0), 0);
        stays(INDEX, "copy", 2, 0, 2, 0, 1);
    }

    void promise34_fewerThan0ItemsIsIndex() {
        refused(0, 0, 1, 0, -1);
        refused(0, 3, 1, 2, -1);
        refused(0, 0, 1, 0, LOW);
    }

    void promise34_anIndexDoesNotWrapAround() {
        refused(0, HIGH, 1, 0, 1);
        refused(0, 0, 1, HIGH, 1);
        refused(0, LOW, 1, 0, 1);
        refused(0, 0, 1, LOW, 1);
        refused(0, 0, 1, 0, HIGH);
        refused(0, 1, 1, 1, HIGH);
        refused(0, HIGH, 1, HIGH, HIGH);
        refused(0, LOW, 1, LOW, LOW);
        refused(0, HIGH, 1, 0, 2);
    }

    void promise34_onlyItsItemsAreWritten() {
        CryptBays x = twoRows();
        due("one", x.copy(0, 2, 1, 0, 1), 1);
        items("to", x, 1, 2, 30, 50);
        CryptBays y = twoRows();
        due("two", y.copy(1, 0, 0, 1, 2), 2);
        items("to", y, 0, 2, 10, 40, 50);
        items("from", y, 1, 2, 40, 50);
    }

    void promise34_ontoItselfAsIfAllWereTakenAhead() {
        CryptBays up = row(reader(), 0, 2, 1, 2, 3, 4, 5);
        due("up", up.copy(0, 0, 0, 1, 4), 4);
        items("up", up, 0, 2, 1, 1, 2, 3, 4);
        CryptBays down = row(reader(), 0, 2, 1, 2, 3, 4, 5);
        due("down", down.copy(0, 1, 0, 0, 4), 4);
        items("down", down, 0, 2, 2, 3, 4, 5, 5);
        CryptBays same = row(reader(), 0, 2, 1, 2, 3);
        due("to where it is", same.copy(0, 0, 0, 0, 3), 3);
        items("to where it is", same, 0, 2, 1, 2, 3);
    }

    void promise34_all24ItemsOfEveryLane() {
        for (int lane = 0; lane < 4; lane++) {
            CryptBays x = reader();
            x.sheet(0, lane, 24);
            x.film(0, 24, 0, lane, 0);
            x.sheet(1, lane, 24);
            due("24", x.copy(0, 0, 1, 0, 24), 24);
            for (int i = 0; i < 24; i++) {
                due("item " + i, itemOf(x, 1, lane, i), i + 1);
            }
            due("25", x.copy(0, 0, 1, 0, 25), INDEX);
        }
    }

    void promise34_rowsStayApartThen() {
        CryptBays x = twoRows();
        x.copy(0, 0, 1, 0, 2);
        x.item(0, 2, 0, 77);
        items("the copy stays", x, 1, 2, 10, 20);
    }

    void promise34_allElseStays() {
        CryptBays x = busy();
        x.copy(0, 0, 0, 1, 2);
        row(x, 0, 2, 50, 60, 70);
        alike("copied and laid again", x, busy());
    }
}
