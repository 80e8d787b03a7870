/** Boundary cases of promises 1 to 8: bays, holders, the tape, crypts. */
public final class BaysEdgeTest extends Edges {
    private static final String SIX = "307512;p20@3>0,s45@4>5,m50@0>3,l30@1>2,y64@5>1,m99@2";

    public static void main(String[] args) {
        new BaysEdgeTest().runAll(1, 8);
    }

    // ---- 1 a new object

    void promise1_nobodyIsThereAndAllCountsAre0() {
        CryptBays x = new CryptBays();
        for (int what = 0; what <= 6; what++) {
            due("count " + what, x.count(what), 0);
        }
    }

    void promise1_sixBaysAreFreeWithLamp3AndDue20() {
        CryptBays x = new CryptBays();
        for (int b = 0; b < 6; b++) {
            due("lamp of " + b, x.at(b, 0), 3);
            due("due of " + b, x.at(b, 1), 20);
            due("who has " + b, x.at(b, 2), NONE);
        }
        due("there is no bay 6", x.at(6, 0), BAD);
        due("there is no bay -1", x.at(-1, 0), BAD);
    }

    void promise1_noCallKnowsAHolder() {
        for (int what = 0; what <= 7; what++) {
            staysOn(CryptBays::new, BAD, "of", 0, what);
        }
        staysOn(CryptBays::new, BAD, "change", 0, 1);
        staysOn(CryptBays::new, BAD, "move", 0, 0);
        staysOn(CryptBays::new, BAD, "talk", 0);
        staysOn(CryptBays::new, BAD, "ahead", 0, 0);
        staysOn(CryptBays::new, BAD, "takes", 0);
        staysOn(CryptBays::new, BAD, "latest", 0, 0, -1);
        staysOn(CryptBays::new, BAD, "dark", 0, 1);
        staysOn(CryptBays::new, BAD, "spare", 0, 1);
        staysOn(CryptBays::new, BAD, "coughs", 0, 0, 0, 0, 0);
        staysOn(CryptBays::new, BAD, "looks", 0, 0, 0, 0, 1, 0);
        staysOn(CryptBays::new, BAD, "film", 0, 1, 0, 0, 0);
    }

    void promise1_whatNeedsNobodyIsAnswered() {
        staysOn(CryptBays::new, 0, "then", 99, 0);
        staysOn(CryptBays::new, 0, "then", 99, 1);
        staysOn(CryptBays::new, NONE, "cough", 0);
        staysOn(CryptBays::new, NONE, "cough", 1);
        staysOn(CryptBays::new, 0, "swaps", 0);
        staysOn(CryptBays::new, NONE, "swaps", 1);
        staysOn(CryptBays::new, 0, "swaps", 2);
    }

    void promise1_nothingIsToBeUndoneOrRestored() {
        staysOn(CryptBays::new, NONE, "undo");
        staysOn(CryptBays::new, NONE, "restore");
    }

    void promise1_theTapeIsEmpty() {
        due("the first letter", new CryptBays().type('3'), 1);
        due("a fault at the end", new CryptBays().crypt(), -20);
    }

    void promise1_theDrawIs1() {
        due("seed", new CryptBays().seed(0), 1);
    }

    void promise1_sheetsHoldNothing() {
        for (int s = 0; s < 4; s++) {
            staysOn(CryptBays::new, NULL, "drop", s);
        }
    }

    void promise1_objectsShareNothing() {
        CryptBays early = new CryptBays();
        CryptBays other = busy();
        other.image();
        other.days(40);
        alike("a new one beside a busy one", early, new CryptBays());
        alike("a new one behind a busy one", new CryptBays(), new CryptBays());
    }

    // ---- 2 holder

    void promise2_kindsAre0To4() {
        CryptBays x = new CryptBays();
        for (int kind = 0; kind <= 4; kind++) {
            due("holder", x.holder(kind, 0, 0), kind);
            due("its kind", x.of(kind, 0), kind);
        }
        staysOutside(0, 4, BAD, "holder", 0, 0, 0, 0);
    }

    void promise2_usedIs0To99() {
        CryptBays x = new CryptBays();
        due("0", x.holder(0, 0, 0), 0);
        due("used", x.of(0, 1), 0);
        due("99", x.holder(0, 99, 0), 1);
        due("used", x.of(1, 1), 99);
        staysOutside(0, 99, BAD, "holder", 1, 0, 0, 0);
    }

    void promise2_likesAre0To5() {
        CryptBays x = new CryptBays();
        due("0", x.holder(0, 0, 0), 0);
        due("likes", x.of(0, 3), 0);
        due("5", x.holder(0, 0, 5), 1);
        due("likes", x.of(1, 3), 5);
        staysOutside(0, 5, BAD, "holder", 2, 0, 0, 0);
    }

    void promise2_usedBy99HasTakenItUpAndBy98Not() {
        CryptBays x = new CryptBays();
        x.holder(0, 98, 0);
        x.holder(0, 99, 0);
        due("98", x.of(0, 4), 0);
        due("99", x.of(1, 4), 1);
        due("the set", x.count(3), 2);
        due("talked to", x.talk(1), NOT);
        due("a day", x.days(1), 3);
        due("only one pays", x.count(2), 20);
    }

    void promise2_theLowestFreeBayIsGiven() {
        CryptBays x = new CryptBays();
        x.holder(0, 0, 5);
        due("the first, whatever it likes", x.of(0, 2), 0);
        x.move(0, 5);
        x.holder(0, 0, 5);
        due("0 is free again", x.of(1, 2), 0);
        x.move(1, 1);
        x.holder(0, 0, 5);
        due("0 is free again", x.of(2, 2), 0);
        x.holder(0, 0, 5);
        due("1 is held", x.of(3, 2), 2);
        due("and 3 is next", x.holder(0, 0, 0), 4);
        due("3", x.of(4, 2), 3);
        due("the last one", x.holder(0, 0, 0), 5);
        due("4, as 5 is held", x.of(5, 2), 4);
    }

    void promise2_theSixthIsTheLast() {
        CryptBays x = new CryptBays();
        for (int h = 0; h < 6; h++) {
            due("holder", x.holder(0, 0, 0), h);
            due("its bay", x.of(h, 2), h);
        }
        due("the seventh", x.holder(0, 0, 0), FULL);
        due("six", x.count(0), 6);
    }

    void promise2_fullLeavesAllAsItWas() {
        staysOn(Edges::full, FULL, "holder", 0, 0, 0);
        staysOn(Edges::full, FULL, "holder", 4, 99, 5);
    }

    void promise2_badComesAheadOfFull() {
        staysOn(Edges::full, BAD, "holder", 5, 0, 0);
        staysOn(Edges::full, BAD, "holder", 0, 100, 0);
        staysOn(Edges::full, BAD, "holder", 0, 0, 6);
    }

    void promise2_aNewHolderLeavesNothingToBeUndone() {
        CryptBays x = busy();
        due("known ahead of it", x.count(6), 6);
        due("holder", x.holder(0, 0, 0), 4);
        due("known", x.count(6), 0);
        due("undo", x.undo(), NONE);
        x.days(1);
        due("a day may be undone", x.undo(), 0);
        due("down to the holder", x.count(0), 5);
    }

    void promise2_aNewHolderLeavesAllElse() {
        CryptBays x = busy();
        CryptBays was = busy();
        x.holder(0, 0, 0);
        for (int what = 1; what <= 4; what++) {
            due("count " + what, x.count(what), was.count(what));
        }
        for (int h = 0; h < 4; h++) {
            for (int what = 0; what <= 4; what++) {
                due("of " + h + " " + what, x.of(h, what), was.of(h, what));
            }
        }
        due("the draw", x.seed(0), was.seed(0));
        due("the image", x.restore(), 1);
        due("without the new one", x.count(0), 4);
    }

    // ---- 3 rule

    void promise3_lampsAre0To9() {
        CryptBays x = new CryptBays();
        due("0", x.rule(0, 0, 0), 3);
        due("is", x.at(0, 0), 0);
        due("9", x.rule(0, 0, 9), 0);
        due("is", x.at(0, 0), 9);
        due("the same", x.rule(0, 0, 9), 9);
        staysOutside(0, 9, BAD, "rule", 2, 0, 0, 0);
    }

    void promise3_duesAre0To99() {
        CryptBays x = new CryptBays();
        due("0", x.rule(0, 1, 0), 20);
        due("is", x.at(0, 1), 0);
        due("10, which no lamp is", x.rule(0, 1, 10), 0);
        due("99", x.rule(0, 1, 99), 10);
        due("is", x.at(0, 1), 99);
        staysOutside(0, 99, BAD, "rule", 2, 0, 1, 0);
    }

    void promise3_baysAre0To5() {
        CryptBays x = new CryptBays();
        due("0", x.rule(0, 0, 1), 3);
        due("5", x.rule(5, 0, 2), 3);
        due("0 is", x.at(0, 0), 1);
        due("1 stays", x.at(1, 0), 3);
        due("4 stays", x.at(4, 0), 3);
        due("5 is", x.at(5, 0), 2);
        staysOutside(0, 5, BAD, "rule", 0, 0, 0, 0);
        staysOutside(0, 5, BAD, "rule", 0, 0, 1, 0);
    }

    void promise3_whatIs0Or1() {
        staysOutside(0, 1, BAD, "rule", 1, 0, 0, 0);
    }

    void promise3_lampAndDueAreApart() {
        CryptBays x = new CryptBays();
        x.rule(2, 0, 7);
        due("the due stays", x.at(2, 1), 20);
        x.rule(2, 1, 8);
        due("the lamp stays", x.at(2, 0), 7);
    }

    void promise3_isNotToBeUndone() {
        CryptBays x = busy();
        x.rule(0, 0, 9);
        x.rule(0, 1, 9);
        due("known", x.count(6), 6);
        due("undo", x.undo(), 5);
        due("the lamp is as told since", x.at(0, 0), 9);
        due("the due is as told since", x.at(0, 1), 9);
    }

    void promise3_isForTheDaysToComeAlone() {
        CryptBays x = crypt("333333;p10@0");
        x.days(1);
        x.rule(0, 0, 9);
        x.rule(0, 1, 1);
        due("used", x.of(0, 1), 17);
        due("dues", x.count(2), 20);
        x.days(1);
        due("used", x.of(0, 1), 18);
        due("dues", x.count(2), 21);
    }

    // ---- 4 of

    void promise4_holdersAreThoseWhoCame() {
        CryptBays x = busy();
        due("the first", x.of(0, 0), 0);
        due("the last", x.of(3, 0), 2);
        for (int what = 0; what <= 7; what++) {
            staysOutside(0, 3, BAD, "of", 0, 0, what);
        }
        due("the sixth of six", full().of(5, 0), 2);
        staysOn(Edges::full, BAD, "of", 6, 0);
    }

    void promise4_whatIs0To7() {
        stays(0, "of", 0, 0);
        due("7", crypt("333333;p0@0>5").of(0, 7), 5);
        staysOutside(0, 7, BAD, "of", 1, 0, 0);
    }

    void promise4_asksChangeNothing() {
        for (int what = 0; what <= 7; what++) {
            stays(busy().of(1, what), "of", 1, what);
        }
    }

    void promise4_plainIs10LessTheLamp() {
        due("lamp 0", crypt("099999;p0@0").of(0, 5), 10);
        due("lamp 9", crypt("900000;p0@0").of(0, 5), 1);
        due("whoever is beside", crypt("333333;p0@1,p99@0,s0@2").of(0, 5), 7);
        due("in the last bay", crypt("999990;p0@5").of(0, 5), 10);
    }

    void promise4_shyIs1LessForEachBesideWhoHasNot() {
        due("alone", crypt("333333;s0@2").of(0, 5), 7);
        due("one", crypt("333333;s0@2,p98@3").of(0, 5), 6);
        due("one on the other side", crypt("333333;s0@2,p0@1").of(0, 5), 6);
        due("two", crypt("333333;s0@2,p0@1,p0@3").of(0, 5), 5);
        due("two behind the curtain", crypt("333333;s0@2,p99@1,p99@3").of(0, 5), 7);
        due("two bays on", crypt("333333;s0@2,p0@0,p0@4").of(0, 5), 7);
    }

    void promise4_shyIs0AtLeast() {
        due("1 less 1", crypt("999999;s0@0,p0@1").of(0, 5), 0);
        due("1 less 2", crypt("999999;s0@1,p0@0,p0@2").of(0, 5), 0);
        due("2 less 2", crypt("888888;s0@1,p0@0,p0@2").of(0, 5), 0);
        due("3 less 2", crypt("777777;s0@1,p0@0,p0@2").of(0, 5), 1);
    }

    void promise4_missHas3MoreInTheFirstAndLastBayAlone() {
        int[] want = {10, 7, 7, 7, 7, 10};
        for (int b = 0; b < 6; b++) {
            due("bay " + b, crypt("333333;m0@" + b).of(0, 5), want[b]);
        }
        due("lamp 0", crypt("000000;m0@0").of(0, 5), 13);
        due("lamp 9", crypt("999999;m0@5").of(0, 5), 4);
    }

    void promise4_solicitorIsAsShyButAtMost4() {
        due("5 is 4", crypt("555555;l0@2").of(0, 5), 4);
        due("4 is 4", crypt("666666;l0@2").of(0, 5), 4);
        due("3 is 3", crypt("777777;l0@2").of(0, 5), 3);
        due("10 less 2 is 4", crypt("000000;l0@2,p0@1,p0@3").of(0, 5), 4);
        due("5 less 2 is 3", crypt("555555;l0@2,p0@1,p0@3").of(0, 5), 3);
        due("4 less 1 is 3", crypt("666666;l0@2,p0@1,p99@3").of(0, 5), 3);
        due("1 less 2 is 0", crypt("999999;l0@2,p0@1,p0@3").of(0, 5), 0);
        due("no more at the end", crypt("999999;l0@5").of(0, 5), 1);
    }

    void promise4_youngIsAsMissAnd2MoreForEachBesideWhoHas() {
        due("alone inside", crypt("333333;y0@2").of(0, 5), 7);
        due("alone at the end", crypt("333333;y0@5").of(0, 5), 10);
        due("by 98", crypt("333333;y0@2,p98@1").of(0, 5), 7);
        due("by 99", crypt("333333;y0@2,p99@1").of(0, 5), 9);
        due("by two", crypt("333333;y0@2,p99@1,p99@3").of(0, 5), 11);
        due("at the end by one", crypt("333333;y0@0,p99@1").of(0, 5), 12);
        due("the most", crypt("000000;y0@0,p99@1").of(0, 5), 15);
        due("the least", crypt("999999;y0@1").of(0, 5), 1);
        due("two bays on", crypt("333333;y0@2,p99@0,p99@4").of(0, 5), 7);
    }

    void promise4_theRowDoesNotWrapAround() {
        due("shy in 0, another in 5", crypt("333333;s0@0,p0@5").of(0, 5), 7);
        due("shy in 5, another in 0", crypt("333333;s0@5,p0@0").of(0, 5), 7);
        due("young in 0, another in 5", crypt("333333;y0@0,p99@5").of(0, 5), 10);
        due("young in 5, another in 0", crypt("333333;y0@5,p99@0").of(0, 5), 10);
        due("not beside", crypt("333333;s0@0,p0@5").of(0, 6), 0);
        due("not beside", crypt("333333;s0@0,p0@5").of(1, 6), 0);
    }

    void promise4_takenUpIs0MoreForEveryKind() {
        for (char kind : "psmly".toCharArray()) {
            due("99 " + kind, crypt("000000;" + kind + "99@0,p99@1").of(0, 5), 0);
            due("98 " + kind, crypt("000000;" + kind + "98@0,p99@1").of(0, 5) > 0 ? 1 : 0, 1);
        }
    }

    void promise4_howMuchMoreIsByKindAndNotCutNear99() {
        due("98", crypt("000000;p98@0").of(0, 5), 10);
        due("98, the most", crypt("000000;y98@0,p99@1").of(0, 5), 15);
    }

    void promise4_hasTakenItUpFrom99On() {
        CryptBays x = crypt("999999;p98@0");
        due("98", x.of(0, 4), 0);
        x.days(1);
        due("99", x.of(0, 4), 1);
    }

    void promise4_besideIsASetOfNobodyOneOrTwo() {
        due("nobody", crypt("333333;p0@0,p0@2").of(0, 6), 0);
        due("one in the first bay", crypt("333333;p0@0,p0@1").of(0, 6), 2);
        due("one in the last bay", crypt("333333;p0@5,p0@4").of(0, 6), 2);
        due("two", crypt(SIX).of(5, 6), 1 + 8);
        due("behind the curtain, too", crypt("333333;p0@0,p99@1").of(0, 6), 2);
        due("seen from behind the curtain", crypt("333333;p0@0,p99@1").of(1, 6), 1);
    }

    void promise4_farIs0To5() {
        due("0", crypt("333333;p0@4").of(0, 7), 0);
        due("5 up", crypt("333333;p0@0>5").of(0, 7), 5);
        due("5 down", crypt("333333;p0@5>0").of(0, 7), 5);
    }

    // ---- 5 at

    void promise5_baysAre0To5() {
        CryptBays x = full();
        due("who has 0", x.at(0, 2), 2);
        due("who has 5", x.at(5, 2), 4);
        for (int what = 0; what <= 2; what++) {
            staysOutside(0, 5, BAD, "at", 0, 0, what);
        }
    }

    void promise5_whatIs0To2() {
        stays(3, "at", 0, 0);
        stays(31, "at", 0, 1);
        stays(NONE, "at", 0, 2);
        staysOutside(0, 2, BAD, "at", 1, 0, 0);
    }

    void promise5_aFreeBayHasNobody() {
        CryptBays x = crypt("333333;p0@5");
        for (int b = 0; b < 5; b++) {
            due("who has " + b, x.at(b, 2), NONE);
        }
        due("holder 0 is somebody", x.at(5, 2), 0);
        x.move(0, 0);
        due("free again", x.at(5, 2), NONE);
        due("held", x.at(0, 2), 0);
    }

    // ---- 6 type

    void promise6_lettersAre32To126() {
        due("32", new CryptBays().type(32), 1);
        due("126", new CryptBays().type(126), 1);
        staysOutside(32, 126, BAD, "type", 0, 32);
    }

    void promise6_aLetterDoesNotWrapAround() {
        for (int letter : new int[] {0, -1, 128, 255, '3' + 256, '3' + 65536, '3' - 256, '3' - 65536}) {
            stays(BAD, "type", letter);
        }
    }

    void promise6_theTapeHas80Letters() {
        CryptBays x = new CryptBays();
        for (int i = 1; i <= 80; i++) {
            due("type", x.type(' '), i);
        }
        due("the 81st", x.type(' '), FULL);
        due("still", x.type('3'), FULL);
    }

    private static CryptBays fullTape() {
        CryptBays x = busy();
        for (char letter : ("6" + " ".repeat(73) + ";").toCharArray()) {
            x.type(letter);
        }
        return x;
    }

    void promise6_fullLeavesTheTape() {
        // The sixth lamp is at place 5; the 80th letter wants a holder behind it, which the end is not.
        CryptBays x = fullTape();
        x.type('x');
        due("80 letters, not 81", x.crypt(), -20 - 80);
        staysOn(BaysEdgeTest::fullTape, FULL, "type", ' ');
        staysOn(BaysEdgeTest::fullTape, FULL, "type", 'p');
    }

    void promise6_badComesAheadOfFull() {
        staysOn(BaysEdgeTest::fullTape, BAD, "type", 31);
        staysOn(BaysEdgeTest::fullTape, BAD, "type", 127);
    }

    void promise6_aLetterChangesNothingElse() {
        CryptBays x = busy();
        x.type('6');
        x.crypt();
        CryptBays y = quiet();
        read(y, "123456");
        alike("typed before or now", x, y);
    }

    // ---- 7 crypt

    private void faultAt(int place, String text) {
        CryptBays x = quiet();
        due("'" + text + "'", read(x, text), -20 - place);
        alike("'" + text + "'", x, quiet());
    }

    private void reads(int holders, String text) {
        due("'" + text + "'", read(new CryptBays(), text), holders);
    }

    void promise7_theEmptyTapeIsAFaultAtItsEnd() {
        faultAt(0, "");
    }

    void promise7_lampsAreSixDigits() {
        faultAt(1, "3");
        faultAt(5, "33333");
        faultAt(5, "33333;");
        faultAt(6, "3333333");
        reads(0, "333333");
    }

    void promise7_lampsAre0To9() {
        CryptBays x = crypt("090909");
        for (int b = 0; b < 6; b++) {
            due("lamp", x.at(b, 0), b % 2 == 0 ? 0 : 9);
        }
        faultAt(0, "/33333");
        faultAt(0, ":33333");
        faultAt(5, "33333/");
        faultAt(5, "33333:");
        faultAt(0, "-33333");
    }

    void promise7_holdersAre1To6() {
        CryptBays x = crypt("333333;p1@0");
        due("one", x.count(0), 1);
        due("six", read(x, SIX), 6);
        faultAt(7, "333333;");
        faultAt(7, "333333;,");
        faultAt(7, "333333;;");
    }

    void promise7_behindTheSixthNoCommaStands() {
        faultAt(36, "333333;p1@0,p1@1,p1@2,p1@3,p1@4,p1@5,");
        faultAt(36, "333333;p1@0,p1@1,p1@2,p1@3,p1@4,p1@5,p1@0");
        faultAt(37, "333333;p1@0,p1@1,p1@2,p1@3,p1@4,p1@5 ,");
        faultAt(36, "333333;p1@0,p1@1,p1@2,p1@3,p1@4,p1@5p");
    }

    void promise7_aCommaStandsBetweenHolders() {
        faultAt(11, "333333;p1@0p1@1");
        faultAt(11, "333333;p1@0;p1@1");
        faultAt(12, "333333;p1@0,");
        faultAt(12, "333333;p1@0,,p1@1");
        faultAt(6, "333333,p1@0");
        faultAt(6, "333333p1@0");
    }

    void promise7_kindsAreTheFiveLetters() {
        for (int kind = 0; kind < 5; kind++) {
            CryptBays x = crypt("333333;" + "psmly".charAt(kind) + "1@0");
            due("kind", x.of(0, 0), kind);
        }
        for (char letter = 33; letter <= 126; letter++) {
            if ("psmly".indexOf(letter) < 0) {
                due("kind " + letter, read(new CryptBays(), "333333;" + letter + "1@0"), -27);
            }
        }
        faultAt(7, "333333;P1@0");
        faultAt(7, "333333;1@0");
        faultAt(8, "333333;ps1@0");
    }

    void promise7_usedIs0To99InOneOrTwoDigits() {
        String[] numbers = {"0", "00", "9", "09", "10", "98", "99"};
        int[] want = {0, 0, 9, 9, 10, 98, 99};
        for (int i = 0; i < numbers.length; i++) {
            CryptBays x = crypt("333333;p" + numbers[i] + "@0");
            due(numbers[i], x.of(0, 1), want[i]);
            due(numbers[i] + " taken up", x.of(0, 4), want[i] == 99 ? 1 : 0);
        }
        faultAt(8, "333333;p");
        faultAt(8, "333333;p@0");
        faultAt(8, "333333;p-1@0");
        faultAt(8, "333333;p/@0");
        faultAt(8, "333333;p:@0");
        faultAt(9, "333333;p1/@0");
        faultAt(9, "333333;p1:@0");
    }

    void promise7_aThirdDigitCantStandThere() {
        faultAt(10, "333333;p100@0");
        faultAt(10, "333333;p000@0");
        faultAt(10, "333333;p099@0");
        faultAt(10, "333333;p99");
        faultAt(10, "333333;p999");
    }

    void promise7_theBayIs0To5AndFree() {
        due("0", crypt("333333;p1@0").of(0, 2), 0);
        due("5", crypt("333333;p1@5").of(0, 2), 5);
        faultAt(9, "333333;p1");
        faultAt(9, "333333;p1>0");
        faultAt(10, "333333;p1@");
        faultAt(10, "333333;p1@6");
        faultAt(10, "333333;p1@>0");
        faultAt(10, "333333;p1@6>0");
        faultAt(15, "333333;p1@0,p1@0>1");
        faultAt(10, "333333;p1@/");
        faultAt(10, "333333;p1@@0");
        faultAt(11, "333333;p1@00");
        faultAt(11, "333333;p1@0@1");
        faultAt(15, "333333;p1@0,p1@0");
        faultAt(15, "333333;p1@5,p1@5");
        faultAt(17, "333333;p1@0>1,p1@0>1");
        reads(2, "333333;p1@0>1,p1@1>0");
    }

    void promise7_aBayThatWasHeldAheadOfItIsFree() {
        CryptBays x = full();
        due("six again", read(x, SIX), 6);
        due("one in a bay that was held", read(x, "333333;p1@2"), 1);
        due("the others are free", x.at(3, 2), NONE);
        due("there is no second one", x.of(1, 0), BAD);
    }

    void promise7_likesAre0To5ElseItsBay() {
        due("0", crypt("333333;p1@3>0").of(0, 3), 0);
        due("5", crypt("333333;p1@3>5").of(0, 3), 5);
        due("its bay", crypt("333333;p1@3").of(0, 3), 3);
        due("what another holds", crypt("333333;p1@3>4,p1@4").of(0, 3), 4);
        faultAt(12, "333333;p1@0>");
        faultAt(12, "333333;p1@0>6");
        faultAt(12, "333333;p1@0>/");
        faultAt(12, "333333;p1@0>,");
        faultAt(13, "333333;p1@0>11");
        faultAt(13, "333333;p1@0>1>1");
    }

    void promise7_blanksCountForNothing() {
        CryptBays x = crypt("  3 1 4 1 5 9  ;  s  12  @  3  >  0  ,  p  4  @  2  ");
        due("two", x.count(0), 2);
        due("lamp", x.at(0, 0), 3);
        due("lamp", x.at(5, 0), 9);
        due("used", x.of(0, 1), 12);
        due("likes", x.of(0, 3), 0);
        due("used", x.of(1, 1), 4);
        due("likes its bay", x.of(1, 3), 2);
        reads(0, "333333 ");
    }

    void promise7_blanksBehindTheSixthHolder() {
        reads(6, "333333;p1@0>1,p1@1>1,p1@2>1,p1@3>1,p1@4>1,p1@5>1  ");
        reads(6, "333333;p1@0>1,p1@1>1,p1@2>1,p1@3>1,p1@4>1,p1@5  ");
        faultAt(50, "333333;p1@0>1,p1@1>1,p1@2>1,p1@3>1,p1@4>1,p1@5>1  ,");
    }

    void promise7_blanksEndANumber() {
        faultAt(10, "333333;p1 0@0");
        faultAt(11, "333333;p10 0@0");
        faultAt(12, "333333;p1   0@0");
        reads(1, "333333;p1 @0");
    }

    void promise7_thePlaceOfAFaultIsBehindBlanks() {
        faultAt(2, "  x");
        faultAt(4, "3 3 x");
        faultAt(8, "333333  x");
        faultAt(9, "333333;  q");
        faultAt(16, "333333;p1@0,p1@ 0");
    }

    void promise7_atTheEndThePlaceIsHowManyLettersThereAre() {
        faultAt(3, "   ");
        faultAt(6, "33333 ");
        faultAt(9, "333333;  ");
        faultAt(14, "333333;p1@0 , ");
        faultAt(80, " ".repeat(80));
    }

    void promise7_theLastOf80LettersCounts() {
        String blanks = " ".repeat(80 - SIX.length());
        due("80 letters", read(new CryptBays(), SIX + blanks), 6);
        due("80 letters, blanks ahead", read(new CryptBays(), blanks + SIX), 6);
        due("the 80th is a fault", read(new CryptBays(), SIX + blanks.substring(1) + "x"), -20 - 79);
    }

    void promise7_theTapeIsEmptyThen() {
        CryptBays x = new CryptBays();
        read(x, "333333");
        due("behind a crypt", x.type('3'), 1);
        x.crypt();
        due("behind a fault", x.type('3'), 1);
        CryptBays y = new CryptBays();
        read(y, "x");
        due("nothing is left of it", read(y, "333333"), 0);
    }

    void promise7_aCryptLeavesDay0NoDuesNothingToBeUndone() {
        CryptBays x = quiet();
        due("crypt", read(x, "999999;p1@1,l99@0"), 2);
        due("the day", x.count(1), 0);
        due("dues in all", x.count(2), 0);
        due("who has taken it up", x.count(3), 2);
        due("known", x.count(6), 0);
        due("undo", x.undo(), NONE);
    }

    void promise7_duesOfBaysTheDrawSheetsAndTheImageStay() {
        CryptBays x = quiet();
        int draw = quiet().seed(0);
        read(x, "999999");
        due("due", x.at(0, 1), 31);
        due("due", x.at(3, 1), 50);
        due("due", x.at(5, 1), 20);
        due("the draw", x.seed(draw), draw);
        due("a sheet", x.drop(0), 3);
        due("the missing one", x.drop(3), NULL);
        due("the image", x.restore(), 1);
        due("has its holders", x.count(0), 4);
        due("and what may be undone", x.count(6), 2);
    }

    void promise7_usedBy99HasTakenItUpAndBy98Not() {
        CryptBays x = crypt("333333;p98@0,p99@1");
        due("the set", x.count(3), 2);
        due("talk", x.talk(0), 93);
        due("talk", x.talk(1), NOT);
    }

    // ---- 8 count

    void promise8_whatIs0To6() {
        stays(4, "count", 0);
        stays(6, "count", 6);
        staysOutside(0, 6, BAD, "count", 0, 0);
        staysOn(CryptBays::new, BAD, "count", 7);
    }

    void promise8_allSixAtTheirMost() {
        CryptBays x = crypt("000000;p99@0>5,p99@1>5,p99@2>5,p99@3>0,p99@4>0,p99@5>0");
        due("holders", x.count(0), 6);
        due("who has taken it up", x.count(3), 63);
        due("used together", x.count(4), 594);
        due("far together", x.count(5), 24);
        x.days(1);
        due("used together, 99 at most", x.count(4), 594);
        due("nobody pays", x.count(2), 0);
    }

    void promise8_allSixAtTheirLeast() {
        CryptBays x = crypt("999999;p0@0,p0@1,p0@2,p0@3,p0@4,p0@5");
        due("who has taken it up", x.count(3), 0);
        due("used together", x.count(4), 0);
        due("far together", x.count(5), 0);
        x.days(1);
        due("all pay", x.count(2), 120);
    }

    void promise8_atMost8MayBeUndone() {
        CryptBays x = crypt("999999;p0@0");
        for (int deeds = 1; deeds <= 7; deeds++) {
            x.talk(0);
            due("known", x.count(6), deeds);
        }
        x.talk(0);
        due("the eighth", x.count(6), 8);
        x.talk(0);
        due("the ninth", x.count(6), 8);
    }
}
