/** Promises 23 to 31 (what word one keeps, kinds, images): one test for each edge that the document names. */
public final class WordEdgesTest {
    private static final int BAD = -1, STATE = -2, FULL = -3, NONE = -9, NO = -1000000;
    private static final int[] FAR = {Integer.MIN_VALUE, -256, -8, 8, 64, 256, Integer.MAX_VALUE};
    /** One plank that bears 7, held by a plain one from either bank; one more person without promises. */
    private static final String HELD = "n1;up4 1;vp3 1;up5 2;x0 0;x1 0;";

    public static void main(String[] args) {
        Cases.runAll(WordEdgesTest.class, 23, 31);
    }

    // ---- 23: "SEEN: how much there is. BAD; FULL."

    static void p23LoadTooSmallOrTooLarge(Check c) {
        HalfPlanks x = Check.told(HELD);
        for (int over = 0; over <= 1; over++) {
            c.same("sees(0, over)", x.sees(0, over), BAD);
            c.same("sees(37, over)", x.sees(37, over), BAD);
            c.same("sees(MIN, over)", x.sees(Integer.MIN_VALUE, over), BAD);
            c.same("sees(MAX, over)", x.sees(Integer.MAX_VALUE, over), BAD);
        }
        c.same("count(2)", x.count(2), 0);
    }

    static void p23OverIsNoughtOrOne(Check c) {
        HalfPlanks x = Check.told(HELD);
        c.same("sees(1, -1)", x.sees(1, -1), BAD);
        c.same("sees(1, 2)", x.sees(1, 2), BAD);
        for (int far : FAR) {
            c.same("sees(1, " + far + ")", x.sees(1, far), BAD);
        }
        c.same("count(2)", x.count(2), 0);
    }

    static void p23LeastAndGreatestLoad(Check c) {
        HalfPlanks x = Check.told(HELD);
        c.same("sees(1, 0)", x.sees(1, 0), 1);
        c.same("sees(36, 1)", x.sees(36, 1), 2);
    }

    static void p23SixAtMost(Check c) {
        HalfPlanks x = Check.told(HELD);
        for (int i = 1; i <= 6; i++) {
            c.same("sees(1, 1)", x.sees(1, 1), i);
        }
        c.same("sees(1, 1)", x.sees(1, 1), FULL);
        c.same("count(2)", x.count(2), 6);
    }

    static void p23FullIsNotSeen(Check c) {
        HalfPlanks x = Check.told(HELD);
        for (int i = 1; i <= 6; i++) {
            x.sees(5, 1);
        }
        c.same("sees(9, 1)", x.sees(9, 1), FULL);
        c.same("words(0, 1)", x.words(0, 1), 2);
    }

    static void p23TheSixthCounts(Check c) {
        HalfPlanks x = Check.told(HELD);
        for (int i = 1; i <= 5; i++) {
            x.sees(5, 1);
        }
        c.same("sees(9, 1)", x.sees(9, 1), 6);
        c.same("words(0, 1)", x.words(0, 1), 6);
    }

    static void p23BadAheadOfFull(Check c) {
        HalfPlanks x = Check.told(HELD);
        for (int i = 1; i <= 6; i++) {
            x.sees(1, 1);
        }
        c.same("sees(0, 1)", x.sees(0, 1), BAD);
        c.same("sees(37, 1)", x.sees(37, 1), BAD);
        c.same("sees(1, 2)", x.sees(1, 2), BAD);
        c.same("sees(1, -1)", x.sees(1, -1), BAD);
        c.same("sees(36, 0)", x.sees(36, 0), FULL);
    }

    static void p23WithoutPeople(Check c) {
        c.same("sees(1, 1)", new HalfPlanks().sees(1, 1), 1);
    }

    static void p23NothingElseChanges(Check c) {
        HalfPlanks x = Check.told(HELD);
        x.sees(7, 1);
        c.same("now(3)", x.now(3), 0);
        c.same("now(5)", x.now(5), 0);
    }

    // ---- 24: "Nothing is SEEN: how much was."

    static void p24NothingWasSeen(Check c) {
        c.same("forget()", new HalfPlanks().forget(), 0);
    }

    static void p24AllSixAreForgotten(Check c) {
        HalfPlanks x = Check.told(HELD);
        for (int i = 1; i <= 6; i++) {
            x.sees(36, 1);
        }
        c.same("words(0, 0)", x.words(0, 0), 0);
        c.same("forget()", x.forget(), 6);
        c.same("count(2)", x.count(2), 0);
        c.same("words(0, 0)", x.words(0, 0), 9);
        c.same("forget()", x.forget(), 0);
    }

    static void p24RoomAgain(Check c) {
        HalfPlanks x = Check.told(HELD);
        for (int i = 1; i <= 6; i++) {
            x.sees(36, 1);
        }
        x.forget();
        for (int i = 1; i <= 6; i++) {
            c.same("sees(7, 1)", x.sees(7, 1), i);
        }
        c.same("sees(7, 1)", x.sees(7, 1), FULL);
        c.same("words(0, 0)", x.words(0, 0), 6);
    }

    // ---- 25: "WORDS: how many (what = 0), the least (1), the greatest (2); NONE. BAD."

    private static void words(Check c, HalfPlanks x, int a, int number, int least, int greatest) {
        c.same("words(" + a + ", 0)", x.words(a, 0), number);
        c.same("words(" + a + ", 1)", x.words(a, 1), least);
        c.same("words(" + a + ", 2)", x.words(a, 2), greatest);
    }

    static void p25NoSuchPerson(Check c) {
        HalfPlanks x = Check.told(HELD);
        for (int what = 0; what <= 2; what++) {
            c.same("words(-1, " + what + ")", x.words(-1, what), BAD);
            c.same("words(3, " + what + ")", x.words(3, what), BAD);
        }
        for (int far : FAR) {
            c.same("words(" + far + ", 0)", x.words(far, 0), BAD);
        }
        c.same("words(0, 0)", new HalfPlanks().words(0, 0), BAD);
    }

    static void p25NoSuchThingOfWords(Check c) {
        HalfPlanks x = Check.told(HELD);
        c.same("words(0, -1)", x.words(0, -1), BAD);
        c.same("words(0, 3)", x.words(0, 3), BAD);
        for (int far : FAR) {
            c.same("words(0, " + far + ")", x.words(0, far), BAD);
        }
    }

    static void p25NothingSeenLeavesAllNine(Check c) {
        HalfPlanks x = Check.told(HELD);
        words(c, x, 0, 9, 1, 9);
        words(c, x, 2, 9, 1, 9);
    }

    static void p25NoWordIsLeft(Check c) {
        HalfPlanks x = Check.told(HELD);
        x.sees(7, 1);
        x.sees(7, 0);
        words(c, x, 0, 0, NONE, NONE);
    }

    static void p25OneWordIsLeft(Check c) {
        HalfPlanks x = Check.told(HELD);
        x.sees(7, 1);
        x.sees(8, 0);
        words(c, x, 0, 1, 4, 4);
        words(c, x, 1, 1, 3, 3);
    }

    static void p25LeastWordAlone(Check c) {
        HalfPlanks x = Check.told(HELD);
        x.sees(5, 0);
        words(c, x, 0, 1, 1, 1);
        x.sees(4, 0);
        words(c, x, 0, 0, NONE, NONE);
    }

    static void p25GreatestWordAlone(Check c) {
        HalfPlanks x = Check.told(HELD);
        x.sees(12, 1);
        words(c, x, 0, 1, 9, 9);
        x.sees(13, 1);
        words(c, x, 0, 0, NONE, NONE);
    }

    static void p25GotOverIfJustBorne(Check c) {
        HalfPlanks x = Check.told(HELD);
        x.sees(7, 1);
        words(c, x, 0, 6, 4, 9);
    }

    static void p25DidNotIfBarelyNotBorne(Check c) {
        HalfPlanks x = Check.told(HELD);
        x.sees(8, 0);
        words(c, x, 0, 4, 1, 4);
    }

    static void p25WordWithoutPromisesDoesNotMatter(Check c) {
        HalfPlanks x = Check.told(HELD);
        x.sees(7, 1);
        words(c, x, 2, 9, 1, 9);
        x.sees(8, 1);
        words(c, x, 2, 0, NONE, NONE);
    }

    static void p25ChildHoldsThreeAtMost(Check c) {
        HalfPlanks x = Check.told("n1;uc1 1;vp3 1;x0 0;x1 0;");
        x.sees(6, 1);
        words(c, x, 0, 7, 3, 9);
        x.sees(7, 1);
        words(c, x, 0, 0, NONE, NONE);
    }

    static void p25MerchantHoldsTwiceOnUnevenPlanks(Check c) {
        HalfPlanks x = Check.told("n2;um4 1;vp3 1;up9 1;x2 0;x1 0;x0 1;x1 1;");
        // Plank 0 bears 12, plank 1 twice the word and 3.
        x.sees(12, 1);
        words(c, x, 0, 5, 5, 9);
        x.sees(13, 1);
        words(c, x, 0, 0, NONE, NONE);
    }

    static void p25LiarWhereASwornOneCame(Check c) {
        HalfPlanks x = Check.told("n1;us4 1;vl9 1;vp2 1;x0 0;x1 0;x2 0;");
        x.sees(6, 1);
        words(c, x, 1, 9, 1, 9);
        x.sees(7, 0);
        words(c, x, 1, 9, 1, 9);
        words(c, x, 0, 1, 4, 4);
    }

    static void p25UnderWayDoesNotBear(Check c) {
        HalfPlanks x = Check.told("n1;up4 1;vp3 1;x0 0;");
        x.promises(1, 0);
        x.sees(1, 0);
        words(c, x, 1, 9, 1, 9);
        x.days();
        words(c, x, 1, 0, NONE, NONE);
    }

    static void p25PromisesAsNow(Check c) {
        HalfPlanks x = Check.told(HELD);
        x.sees(7, 1);
        x.promises(2, 0);
        Check.days(x, 2);
        // Whatever word 0 has, 5 and 3 are held now.
        words(c, x, 0, 9, 1, 9);
        x.breaks(1, 0);
        words(c, x, 0, 0, NONE, NONE);
    }

    static void p25NothingIsChanged(Check c) {
        HalfPlanks x = Check.told(HELD);
        x.sees(12, 1);
        words(c, x, 0, 1, 9, 9);
        c.same("person(0, 2)", x.person(0, 2), 4);
        c.same("now(1)", x.now(1), 7);
        c.same("count(2)", x.count(2), 1);
    }

    // ---- 26: "TRY; NONE. BAD."

    static void p26NoSuchPerson(Check c) {
        HalfPlanks x = Check.told(HELD);
        c.same("next(-1)", x.next(-1), BAD);
        c.same("next(3)", x.next(3), BAD);
        for (int far : FAR) {
            c.same("next(" + far + ")", x.next(far), BAD);
        }
        c.same("next(0)", new HalfPlanks().next(0), BAD);
    }

    static void p26OneWordCanBe(Check c) {
        HalfPlanks x = Check.told(HELD);
        x.sees(12, 1);
        c.same("words(0, 0)", x.words(0, 0), 1);
        c.same("next(0)", x.next(0), NONE);
    }

    static void p26NoWordCanBe(Check c) {
        HalfPlanks x = Check.told(HELD);
        x.sees(13, 1);
        c.same("words(0, 0)", x.words(0, 0), 0);
        c.same("next(0)", x.next(0), NONE);
    }

    static void p26TwoWordsCanBe(Check c) {
        HalfPlanks x = Check.told(HELD);
        x.sees(11, 1);
        c.same("words(0, 0)", x.words(0, 0), 2);
        c.same("next(0)", x.next(0), 12);
    }

    static void p26GreaterPartIsSmallest(Check c) {
        HalfPlanks x = Check.told(HELD);
        // 4 .. 12 is borne by words 1 .. 9: 8 parts them into 5 and 4, as does 9.
        c.same("next(0)", x.next(0), 8);
        x.sees(8, 0);
        c.same("next(0), of 4 .. 7", x.next(0), 6);
        x.sees(6, 0);
        c.same("next(0), of 4, 5", x.next(0), 5);
    }

    static void p26OfSeveralTheLeast(Check c) {
        HalfPlanks x = Check.told("n1;ul9 1;vl9 1;x0 0;x1 0;");
        // 20, 22 .. 36 by words 1 .. 9: 27 and 28 part them alike, 29 and 30 as well.
        c.same("next(0)", x.next(0), 27);
        x.sees(34, 1);
        c.same("next(0), of 34, 36", x.next(0), 35);
    }

    static void p26AllAlikeTheLeastLoad(Check c) {
        HalfPlanks x = Check.told(HELD);
        c.same("next(2)", x.next(2), 1);
        HalfPlanks child = Check.told("n1;uc9 1;vp3 1;x0 0;x1 0;");
        child.sees(6, 1);
        c.same("next(0), a child", child.next(0), 1);
    }

    // ---- 27: "RATE. NO: BAD."

    static void p27NoSuchKind(Check c) {
        HalfPlanks x = Check.told(HELD);
        c.same("rate(-1, 0)", x.rate(-1, 0), NO);
        c.same("rate(6, 0)", x.rate(6, 0), NO);
        for (int far : FAR) {
            c.same("rate(" + far + ", 0)", x.rate(far, 0), NO);
        }
        c.same("trace()", x.trace(), 0);
    }

    static void p27NoSuchPerson(Check c) {
        HalfPlanks x = Check.told(HELD);
        for (int kind = 0; kind <= 5; kind++) {
            c.same("rate(" + kind + ", -1)", x.rate(kind, -1), NO);
            c.same("rate(" + kind + ", 3)", x.rate(kind, 3), NO);
        }
        for (int far : FAR) {
            c.same("rate(0, " + far + ")", x.rate(0, far), NO);
        }
        c.same("trace()", x.trace(), 0);
    }

    private static void rates(Check c, HalfPlanks x, int a, int... due) {
        for (int kind = 0; kind <= 5; kind++) {
            c.same("rate(" + kind + ", " + a + ")", x.rate(kind, a), due[kind]);
        }
    }

    static void p27LeastOfAll(Check c) {
        HalfPlanks x = Check.told("n8;up1 1;x0 0;x0 1;x0 2;x0 3;x0 4;x0 5;x0 6;x0 7;");
        rates(c, x, 0, 1, 2, 4, 9, -7, -21);
    }

    static void p27GreatestOfAll(Check c) {
        HalfPlanks x = Check.told("up1 1;".repeat(7) + "vl9 5;");
        rates(c, x, 7, 9, 14, 28, 9, 9, 34);
    }

    static void p27AnyOneAsAnyKind(Check c) {
        for (char kind : "pcsml".toCharArray()) {
            HalfPlanks x = Check.told("up1 1;u" + kind + "6 2;x1 0;x1 2;");
            rates(c, x, 1, 6, 8, 16, 8, 4, 13);
        }
    }

    static void p27SwornCountsWhatCame(Check c) {
        HalfPlanks x = Check.told("n2;us6 2;x0 0;");
        x.promises(0, 1);
        c.same("rate(3, 0)", x.rate(3, 0), 7);
        Check.days(x, 2);
        c.same("rate(3, 0)", x.rate(3, 0), 8);
        x.breaks(0, 0);
        c.same("rate(3, 0)", x.rate(3, 0), 7);
    }

    static void p27MerchantCountsWhatItGave(Check c) {
        HalfPlanks x = Check.told("n2;um6 2;x0 0;");
        x.promises(0, 1);
        c.same("rate(4, 0)", x.rate(4, 0), 4);
        Check.days(x, 2);
        c.same("rate(4, 0)", x.rate(4, 0), 4);
        x.breaks(0, 0);
        c.same("rate(4, 0)", x.rate(4, 0), 5);
    }

    // ---- 28: "An IMAGE is kept: the DAY. BAD."

    static void p28NoSuchImage(Check c) {
        HalfPlanks x = Check.told(HELD);
        c.same("keep(-1)", x.keep(-1), BAD);
        c.same("keep(2)", x.keep(2), BAD);
        for (int far : FAR) {
            c.same("keep(" + far + ")", x.keep(far), BAD);
        }
        c.same("back(0)", x.back(0), STATE);
        c.same("back(1)", x.back(1), STATE);
    }

    static void p28BothImages(Check c) {
        HalfPlanks x = Check.told(HELD);
        c.same("keep(0)", x.keep(0), 0);
        x.days();
        c.same("keep(1)", x.keep(1), 1);
        c.same("back(0)", x.back(0), 0);
        c.same("back(1)", x.back(1), 1);
    }

    static void p28OneIsKeptOverAnother(Check c) {
        HalfPlanks x = Check.told(HELD);
        x.keep(0);
        x.days();
        c.same("keep(0)", x.keep(0), 1);
        x.days();
        c.same("back(0)", x.back(0), 1);
    }

    static void p28NothingElseChanges(Check c) {
        HalfPlanks x = Check.told(HELD);
        x.days();
        x.keep(0);
        c.same("now(0)", x.now(0), 1);
        c.same("now(5)", x.now(5), 1);
        c.same("undo()", x.undo(), 0);
        c.same("now(0)", x.now(0), 0);
        c.same("back(0)", x.back(0), 1);
    }

    static void p28WithoutPeople(Check c) {
        HalfPlanks x = new HalfPlanks();
        c.same("keep(1)", x.keep(1), 0);
        c.same("back(1)", x.back(1), 0);
    }

    // ---- 29: "All of that becomes as an IMAGE has it: the DAY. BAD; STATE: none was kept."

    static void p29NoSuchImage(Check c) {
        HalfPlanks x = Check.told(HELD);
        x.keep(0);
        x.keep(1);
        x.days();
        c.same("back(-1)", x.back(-1), BAD);
        c.same("back(2)", x.back(2), BAD);
        for (int far : FAR) {
            c.same("back(" + far + ")", x.back(far), BAD);
        }
        c.same("now(0)", x.now(0), 1);
        c.same("now(5)", x.now(5), 1);
    }

    static void p29BadAheadOfState(Check c) {
        HalfPlanks x = new HalfPlanks();
        c.same("back(2)", x.back(2), BAD);
        c.same("back(-1)", x.back(-1), BAD);
        c.same("back(1)", x.back(1), STATE);
    }

    static void p29NoneWasKept(Check c) {
        HalfPlanks x = Check.told(HELD);
        x.keep(1);
        x.days();
        c.same("back(0)", x.back(0), STATE);
        c.same("now(0)", x.now(0), 1);
        c.same("undo()", x.undo(), 0);
    }

    static void p29DayPromisesAndWhatCrossed(Check c) {
        HalfPlanks x = Check.told(HELD);
        x.promises(2, 0);
        x.days();
        x.crosses(7);
        x.keep(0);
        x.days();
        x.crosses(8);
        x.breaks(0, 0);
        c.same("back(0)", x.back(0), 1);
        c.same("now(0)", x.now(0), 1);
        c.same("now(1)", x.now(1), 7);
        c.same("now(3)", x.now(3), 1);
        c.same("now(4)", x.now(4), 1);
        c.same("days(), on its day", x.days(), 1);
        c.same("now(1)", x.now(1), 8);
    }

    static void p29LetterComesOnTheDayItWasToComeOn(Check c) {
        for (int p = 0; p < 8; p++) {
            HalfPlanks x = Check.told("n8;" + "up1 3;".repeat(8));
            int a = 7 - p;
            c.same("promises(a, p)", x.promises(a, p), 3);
            x.days();
            x.keep(0);
            x.breaks(a, p);
            c.same("promises(a, p)", x.promises(a, p), 4);
            c.same("back(0)", x.back(0), 1);
            c.same("days(), to day 2", x.days(), 0);
            c.same("days(), to day 3", x.days(), 1);
        }
    }

    static void p29NothingCanBeUndoneBehindIt(Check c) {
        HalfPlanks x = Check.told(HELD);
        x.days();
        x.keep(0);
        x.days();
        x.back(0);
        c.same("now(5)", x.now(5), 0);
        c.same("undo()", x.undo(), STATE);
        x.days();
        c.same("undo()", x.undo(), 0);
        c.same("now(0)", x.now(0), 1);
        c.same("undo()", x.undo(), STATE);
    }

    static void p29ImageStaysAsItIs(Check c) {
        HalfPlanks x = Check.told(HELD);
        x.keep(0);
        for (int i = 0; i < 3; i++) {
            x.breaks(0, 0);
            Check.days(x, 4);
            c.same("back(0)", x.back(0), 0);
            c.same("now(1)", x.now(1), 7);
        }
    }

    static void p29NothingElseComesBack(Check c) {
        HalfPlanks x = Check.told(HELD);
        x.sees(7, 1);
        x.type('n');
        x.rate(0, 0);
        x.keep(0);
        x.keep(1);
        x.forget();
        x.sees(8, 0);
        x.sees(9, 0);
        x.type('1');
        x.rate(1, 0);
        x.days();
        x.keep(1);
        c.same("back(0)", x.back(0), 0);
        c.same("count(2)", x.count(2), 2);
        c.same("words(0, 2)", x.words(0, 2), 4);
        c.same("count(3)", x.count(3), 2);
        c.same("trace()", x.trace(), 12);
        c.same("back(1)", x.back(1), 1);
    }

    // ---- 30: "0 PLANKS, 1 PEOPLE, 2 SEEN, 3 letters of THE TEXT. BAD."

    static void p30NoSuchThing(Check c) {
        HalfPlanks x = Check.told(HELD);
        c.same("count(-1)", x.count(-1), BAD);
        c.same("count(4)", x.count(4), BAD);
        for (int far : FAR) {
            c.same("count(" + far + ")", x.count(far), BAD);
        }
    }

    static void p30AsMuchAsCanBe(Check c) {
        HalfPlanks x = Check.told("n8;" + "up1 1;".repeat(8));
        for (int i = 0; i < 10; i++) {
            x.sees(1, 1);
        }
        Check.type(x, " ".repeat(130));
        c.same("count(0)", x.count(0), 8);
        c.same("count(1)", x.count(1), 8);
        c.same("count(2)", x.count(2), 6);
        c.same("count(3)", x.count(3), 120);
    }

    static void p30AsLittleAsCanBe(Check c) {
        HalfPlanks x = Check.told("n1;");
        c.same("count(0)", x.count(0), 1);
        c.same("count(1)", x.count(1), 0);
        c.same("count(2)", x.count(2), 0);
        c.same("count(3)", x.count(3), 0);
    }

    // ---- 31: "THE TRACE."

    static void p31EachBodyOnce(Check c) {
        long[] adds = {1, 11, 111, 1001, 10001, 110001};
        for (int kind = 0; kind <= 5; kind++) {
            HalfPlanks x = Check.told(HELD);
            x.rate(kind, 0);
            c.same("trace() behind rate(" + kind + ", 0)", x.trace(), adds[kind]);
            x.rate(kind, 1);
            c.same("trace() behind another", x.trace(), 2 * adds[kind]);
        }
    }

    static void p31RefusedAddNothing(Check c) {
        HalfPlanks x = Check.told(HELD);
        x.rate(5, 0);
        x.rate(5, 3);
        x.rate(6, 0);
        x.rate(-1, -1);
        c.same("trace()", x.trace(), 110001);
    }

    static void p31OnlyRateAdds(Check c) {
        HalfPlanks x = Check.told(HELD);
        x.person(0, 7);
        x.hold(0, 0);
        x.words(0, 0);
        x.next(0);
        x.byTurns(3);
        x.keep(0);
        x.back(0);
        x.trace();
        c.same("trace()", x.trace(), 0);
    }

    static void p31AsMuchAsCanBe(Check c) {
        HalfPlanks x = Check.told("up1 1;");
        for (int i = 0; i < 500; i++) {
            x.rate(5, 0);
        }
        c.same("trace()", x.trace(), 55000500);
    }
}
