/** Promises 5 to 13 (what there is, what is done): one test for each edge that the document names. */
public final class StateEdgesTest {
    private static final int BAD = -1, STATE = -2;
    private static final int[] FAR = {Integer.MIN_VALUE, -256, -8, 8, 32, 64, 256, Integer.MAX_VALUE};
    /** One plank that bears 7, held by a plain one from either bank. */
    private static final String HELD = "n1;up4 1;vp3 1;x0 0;x1 0;";
    private static final String EIGHT_OF_A_BANK = "up1 1;".repeat(8);

    public static void main(String[] args) {
        Cases.runAll(StateEdgesTest.class, 5, 13);
    }

    private static void due(Check c, HalfPlanks x, int a, int what, int answer) {
        c.same("person(" + a + ", " + what + ")", x.person(a, what), answer);
    }

    // ---- 5: "Of a PERSON: 0 BANK .. 7 WORTH. BAD."

    static void p05NoSuchPerson(Check c) {
        HalfPlanks x = Check.told(HELD);
        for (int what = 0; what <= 7; what++) {
            due(c, x, -1, what, BAD);
            due(c, x, 2, what, BAD);
        }
        for (int far : FAR) {
            due(c, x, far, 0, BAD);
        }
    }

    static void p05NoNinthPerson(Check c) {
        HalfPlanks x = Check.told(EIGHT_OF_A_BANK);
        due(c, x, 7, 0, 0);
        due(c, x, 8, 0, BAD);
    }

    static void p05NoSuchThingOfAPerson(Check c) {
        HalfPlanks x = Check.told(HELD);
        due(c, x, 0, -1, BAD);
        due(c, x, 0, 8, BAD);
        for (int far : FAR) {
            due(c, x, 0, far, BAD);
        }
    }

    static void p05WithoutPromises(Check c) {
        HalfPlanks x = Check.told(HELD + "vl9 5;");
        for (int what = 4; what <= 7; what++) {
            due(c, x, 2, what, 0);
        }
    }

    static void p05AllPlanksCame(Check c) {
        HalfPlanks x = Check.told("n8;up1 1;x0 0;x0 1;x0 2;x0 3;x0 4;x0 5;x0 6;x0 7;");
        due(c, x, 0, 4, 255);
        due(c, x, 0, 5, 0);
    }

    static void p05AllPlanksUnderWay(Check c) {
        HalfPlanks x = Check.told("n8;up1 1;");
        for (int p = 0; p < 8; p++) {
            x.promises(0, p);
        }
        due(c, x, 0, 4, 0);
        due(c, x, 0, 5, 255);
        x.days();
        due(c, x, 0, 4, 255);
        due(c, x, 0, 5, 0);
    }

    static void p05FallsOnlyWhatLies(Check c) {
        HalfPlanks x = Check.told("n3;up4 1;vp3 1;x0 0;x1 0;x0 1;x1 2;");
        due(c, x, 0, 6, 1);
        due(c, x, 1, 6, 1);
    }

    static void p05FallsNotWhereAnotherHolds(Check c) {
        HalfPlanks x = Check.told(HELD + "vp1 1;x2 0;");
        due(c, x, 0, 6, 1);
        due(c, x, 1, 6, 0);
        due(c, x, 2, 6, 0);
    }

    static void p05FallsThoughAnotherIsUnderWay(Check c) {
        HalfPlanks x = Check.told(HELD + "vp1 2;");
        x.promises(2, 0);
        due(c, x, 1, 6, 1);
        Check.days(x, 2);
        due(c, x, 1, 6, 0);
    }

    static void p05FallsOfAllItsPlanks(Check c) {
        HalfPlanks x = Check.told("n8;us1 1;us1 1;x0 0;x1 0;x0 7;x1 7;x0 3;");
        due(c, x, 0, 6, 129);
        due(c, x, 1, 6, 129);
    }

    static void p05FallsNotWhereLiarsHoldThen(Check c) {
        HalfPlanks x = Check.told("n1;us1 1;vp1 1;ul2 1;vl2 1;x0 0;x1 0;x2 0;x3 0;");
        due(c, x, 0, 6, 0);
        due(c, x, 1, 6, 1);
    }

    static void p05WorthByTheBridge(Check c) {
        // Plank 0 bears 4, plank 1 bears 9 and, without its best one, still 7.
        HalfPlanks x = Check.told("n2;up2 1;vp2 1;up5 1;vp4 1;up3 1;x0 0;x1 0;x2 1;x3 1;x4 1;");
        due(c, x, 0, 7, 4);
        due(c, x, 2, 7, 0);
        due(c, x, 3, 7, 4);
        due(c, x, 4, 7, 0);
    }

    static void p05WorthInPart(Check c) {
        HalfPlanks x = Check.told(HELD + "vp1 1;x2 0;");
        due(c, x, 0, 7, 7);
        due(c, x, 1, 7, 2);
        due(c, x, 2, 7, 0);
    }

    static void p05WorthNoughtIfTheBridgeBearsMore(Check c) {
        HalfPlanks x = Check.told("n1;us1 1;vp1 1;ul9 1;vl9 1;x0 0;x1 0;x2 0;x3 0;");
        due(c, x, 0, 7, 0);
        c.same("now(1)", x.now(1), 2);
    }

    static void p05WorthNoughtIfTheBridgeBearsNothing(Check c) {
        HalfPlanks x = Check.told("n2;up4 1;vp3 1;x0 0;x1 0;");
        due(c, x, 0, 7, 0);
        due(c, x, 0, 6, 1);
    }

    static void p05GreatestWorth(Check c) {
        HalfPlanks x = Check.told("n1;ul9 1;vl9 1;x0 0;x1 0;");
        due(c, x, 0, 7, 36);
        due(c, x, 1, 7, 36);
    }

    // ---- 6: "Of a PLANK: 0 what it BEARS, 1 who STANDS for BANK 0 (bits), 2 for BANK 1 (bits). BAD."

    private static void plank(Check c, HalfPlanks x, int p, int bears, int left, int right) {
        c.same("plank(" + p + ", 0)", x.plank(p, 0), bears);
        c.same("plank(" + p + ", 1)", x.plank(p, 1), left);
        c.same("plank(" + p + ", 2)", x.plank(p, 2), right);
    }

    static void p06NoSuchPlank(Check c) {
        HalfPlanks x = Check.told("n5;");
        for (int what = 0; what <= 2; what++) {
            c.same("plank(-1, what)", x.plank(-1, what), BAD);
            c.same("plank(5, what)", x.plank(5, what), BAD);
        }
        for (int far : FAR) {
            c.same("plank(" + far + ", 0)", x.plank(far, 0), BAD);
        }
        c.same("plank(4, 0)", x.plank(4, 0), 0);
    }

    static void p06NoSuchThingOfAPlank(Check c) {
        HalfPlanks x = Check.told(HELD);
        c.same("plank(0, -1)", x.plank(0, -1), BAD);
        c.same("plank(0, 3)", x.plank(0, 3), BAD);
        for (int far : FAR) {
            c.same("plank(0, " + far + ")", x.plank(0, far), BAD);
        }
    }

    static void p06NobodyStands(Check c) {
        plank(c, Check.told("n1;up9 1;vp9 1;"), 0, 0, 0, 0);
    }

    static void p06OneBankBearsNothing(Check c) {
        plank(c, Check.told("n1;up9 1;up8 1;x0 0;x1 0;"), 0, 0, 3, 0);
        plank(c, Check.told("n1;vp9 1;vp8 1;x0 0;x1 0;"), 0, 0, 0, 3);
    }

    static void p06OneSwornIsNotTwo(Check c) {
        plank(c, Check.told("n1;us9 1;x0 0;"), 0, 0, 1, 1);
    }

    static void p06TwoSwornOfOneBank(Check c) {
        plank(c, Check.told("n1;vs9 1;vs8 1;x0 0;x1 0;"), 0, 17, 3, 3);
    }

    static void p06SwornWithOneOfItsOwnBank(Check c) {
        plank(c, Check.told("n1;us9 1;up8 1;x0 0;x1 0;"), 0, 17, 3, 1);
        plank(c, Check.told("n1;vs9 1;vp8 1;x0 0;x1 0;"), 0, 17, 1, 3);
    }

    static void p06LiarWhoHoldsNothingDoesNotStand(Check c) {
        plank(c, Check.told("n1;us4 1;vl9 1;x0 0;x1 0;"), 0, 0, 1, 1);
        plank(c, Check.told("n1;us4 1;vl9 1;x1 0;"), 0, 0, 0, 2);
    }

    static void p06UnderWayDoesNotStand(Check c) {
        HalfPlanks x = Check.told("n1;up4 1;vp3 2;x0 0;");
        x.promises(1, 0);
        plank(c, x, 0, 0, 1, 0);
        x.days();
        plank(c, x, 0, 0, 1, 0);
        x.days();
        plank(c, x, 0, 7, 1, 2);
    }

    static void p06GreatestTwoOfMany(Check c) {
        HalfPlanks x = Check.told("n1;up4 1;up5 1;up3 1;vp6 1;vp8 1;vp7 1;x0 0;x1 0;x2 0;x3 0;x4 0;x5 0;");
        plank(c, x, 0, 13, 7, 56);
    }

    static void p06GreatestTwoMayBothBeSworn(Check c) {
        HalfPlanks x = Check.told("n1;up4 1;vp5 1;us6 1;us7 1;x0 0;x1 0;x2 0;x3 0;");
        plank(c, x, 0, 13, 13, 14);
    }

    static void p06GreatestTwoOnePerBank(Check c) {
        HalfPlanks x = Check.told("n1;up9 1;up8 1;vp1 1;x0 0;x1 0;x2 0;");
        plank(c, x, 0, 10, 3, 4);
    }

    static void p06LeastThatBears(Check c) {
        plank(c, Check.told("n1;uc1 1;vp1 1;x0 0;x1 0;"), 0, 2, 1, 2);
    }

    static void p06MostThatBears(Check c) {
        plank(c, Check.told("n1;ul9 1;vl9 1;x0 0;x1 0;"), 0, 36, 1, 2);
        plank(c, Check.told("n2;um9 1;vm9 1;x0 1;x1 1;"), 1, 36, 1, 2);
    }

    static void p06EightStand(Check c) {
        HalfPlanks x = Check.told("n1;us1 1;us1 1;us1 1;us1 1;vs1 1;vs1 1;vs1 1;vs2 1;"
            + "x0 0;x1 0;x2 0;x3 0;x4 0;x5 0;x6 0;x7 0;");
        plank(c, x, 0, 3, 255, 255);
    }

    static void p06PlanksAreApart(Check c) {
        HalfPlanks x = Check.told("n8;up4 1;vp3 1;x0 7;x1 7;x0 0;x1 1;");
        plank(c, x, 0, 0, 1, 0);
        plank(c, x, 1, 0, 0, 2);
        plank(c, x, 6, 0, 0, 0);
        plank(c, x, 7, 7, 1, 2);
    }

    // ---- 7: "HOLD. BAD."

    static void p07NoSuchPersonOrPlank(Check c) {
        HalfPlanks x = Check.told(HELD);
        c.same("hold(-1, 0)", x.hold(-1, 0), BAD);
        c.same("hold(2, 0)", x.hold(2, 0), BAD);
        c.same("hold(0, -1)", x.hold(0, -1), BAD);
        c.same("hold(0, 1)", x.hold(0, 1), BAD);
        for (int far : FAR) {
            c.same("hold(" + far + ", 0)", x.hold(far, 0), BAD);
            c.same("hold(0, " + far + ")", x.hold(0, far), BAD);
        }
    }

    private static void holds(Check c, char kind, int word, int even, int uneven) {
        HalfPlanks x = Check.told("n8;u" + kind + word + " 1;");
        for (int p = 0; p < 8; p++) {
            c.same("hold(0, " + p + ") of " + kind + word, x.hold(0, p), p % 2 == 0 ? even : uneven);
        }
    }

    static void p07PlainHoldsItsWord(Check c) {
        holds(c, 'p', 1, 1, 1);
        holds(c, 'p', 9, 9, 9);
    }

    static void p07SwornHoldsItsWord(Check c) {
        holds(c, 's', 1, 1, 1);
        holds(c, 's', 9, 9, 9);
    }

    static void p07ChildHoldsThreeAtMost(Check c) {
        for (int word = 1; word <= 9; word++) {
            int held = word > 3 ? 3 : word;
            holds(c, 'c', word, held, held);
        }
    }

    static void p07MerchantHoldsTwiceOnUnevenPlanks(Check c) {
        holds(c, 'm', 1, 1, 2);
        holds(c, 'm', 9, 9, 18);
    }

    static void p07LiarHoldsTwice(Check c) {
        holds(c, 'l', 1, 2, 2);
        holds(c, 'l', 9, 18, 18);
    }

    static void p07LiarHoldsNothingWhereASwornOneCame(Check c) {
        HalfPlanks x = Check.told("n2;ul5 1;us1 1;vs1 1;x1 0;x2 1;");
        c.same("hold(0, 0), of its bank", x.hold(0, 0), 0);
        c.same("hold(0, 1), of the other", x.hold(0, 1), 0);
    }

    static void p07LiarHoldsOnOtherPlanks(Check c) {
        HalfPlanks x = Check.told("n3;ul5 1;us1 1;x1 1;");
        c.same("hold(0, 0)", x.hold(0, 0), 10);
        c.same("hold(0, 1)", x.hold(0, 1), 0);
        c.same("hold(0, 2)", x.hold(0, 2), 10);
    }

    static void p07LiarHoldsWhileASwornOneIsUnderWay(Check c) {
        HalfPlanks x = Check.told("n1;ul5 1;us1 2;");
        x.promises(1, 0);
        x.days();
        c.same("hold(0, 0)", x.hold(0, 0), 10);
        x.days();
        c.same("hold(0, 0)", x.hold(0, 0), 0);
    }

    static void p07LiarHoldsAgainWhenTheLastSwornOneBreaks(Check c) {
        HalfPlanks x = Check.told("n1;ul5 1;us1 1;vs1 1;x1 0;x2 0;");
        x.breaks(1, 0);
        c.same("hold(0, 0)", x.hold(0, 0), 0);
        x.breaks(2, 0);
        c.same("hold(0, 0)", x.hold(0, 0), 10);
    }

    static void p07OthersHoldWhereASwornOneCame(Check c) {
        HalfPlanks x = Check.told("n2;us5 1;up4 1;uc4 1;um4 1;us4 1;x0 1;");
        int[] held = {5, 4, 3, 8, 4};
        for (int a = 0; a < 5; a++) {
            c.same("hold(" + a + ", 1)", x.hold(a, 1), held[a]);
        }
    }

    // ---- 8: "0 the DAY .. 5 how many may be UNDONE. BAD."

    static void p08NoSuchThing(Check c) {
        HalfPlanks x = Check.told(HELD);
        c.same("now(-1)", x.now(-1), BAD);
        c.same("now(6)", x.now(6), BAD);
        for (int far : FAR) {
            c.same("now(" + far + ")", x.now(far), BAD);
        }
    }

    static void p08BridgeBearsWhatItsLeastPlankDoes(Check c) {
        HalfPlanks x = Check.told("n3;up4 1;vp3 1;up2 1;vp1 1;x0 0;x1 0;x2 1;x3 1;x0 2;x3 2;");
        c.same("now(1)", x.now(1), 3);
    }

    static void p08BridgeBearsNothingIfOnePlankDoesNotLie(Check c) {
        HalfPlanks x = Check.told("n8;us1 1;us1 1;x0 0;x1 0;x0 1;x1 1;x0 2;x1 2;x0 3;x1 3;x0 4;x1 4;x0 5;x1 5;x0 6;x1 6;");
        c.same("now(1)", x.now(1), 0);
        c.same("now(2)", x.now(2), 127);
        x.promises(0, 7);
        x.promises(1, 7);
        x.days();
        c.same("now(1)", x.now(1), 2);
        c.same("now(2)", x.now(2), 255);
    }

    static void p08BridgeByMerchantsBearsWhatPlank0Does(Check c) {
        HalfPlanks x = Check.told("n2;um4 1;vm4 1;x0 0;x1 0;x0 1;x1 1;");
        c.same("plank(1, 0)", x.plank(1, 0), 16);
        c.same("now(1)", x.now(1), 8);
        c.same("now(1), one plank", Check.told("n1;um4 1;vm4 1;x0 0;x1 0;").now(1), 8);
    }

    static void p08BridgeOfOnePlank(Check c) {
        HalfPlanks x = Check.told(HELD);
        c.same("now(1)", x.now(1), 7);
        c.same("now(2)", x.now(2), 1);
    }

    static void p08MostThatTheBridgeBears(Check c) {
        c.same("now(1)", Check.told("n1;ul9 1;vl9 1;x0 0;x1 0;").now(1), 36);
    }

    static void p08AllPromisesUnderWay(Check c) {
        HalfPlanks x = Check.told("n8;" + EIGHT_OF_A_BANK);
        for (int i = 0; i < 64; i++) {
            x.promises(i / 8, i % 8);
            c.same("now(4)", x.now(4), i + 1);
        }
        x.days();
        c.same("now(4)", x.now(4), 0);
    }

    static void p08CameIsNotUnderWay(Check c) {
        c.same("now(4)", Check.told(HELD).now(4), 0);
    }

    static void p08TenAtMostMayBeUndone(Check c) {
        HalfPlanks x = new HalfPlanks();
        for (int i = 1; i <= 25; i++) {
            x.days();
            c.same("now(5)", x.now(5), Math.min(i, 10));
        }
        c.same("now(0)", x.now(0), 25);
    }

    // ---- 9: "PROMISED: the DAY on which it comes. BAD; STATE: it is not none."

    static void p09NoSuchPersonOrPlank(Check c) {
        HalfPlanks x = Check.told("n2;up1 1;");
        c.same("promises(-1, 0)", x.promises(-1, 0), BAD);
        c.same("promises(1, 0)", x.promises(1, 0), BAD);
        c.same("promises(0, -1)", x.promises(0, -1), BAD);
        c.same("promises(0, 2)", x.promises(0, 2), BAD);
        for (int far : FAR) {
            c.same("promises(" + far + ", 0)", x.promises(far, 0), BAD);
            c.same("promises(0, " + far + ")", x.promises(0, far), BAD);
        }
        c.same("now(4)", x.now(4), 0);
    }

    static void p09BadAheadOfState(Check c) {
        HalfPlanks x = Check.told("n1;up1 1;x0 0;");
        c.same("promises(0, 1)", x.promises(0, 1), BAD);
        c.same("promises(1, 0)", x.promises(1, 0), BAD);
        c.same("promises(0, 0)", x.promises(0, 0), STATE);
    }

    static void p09PromiseThatCame(Check c) {
        HalfPlanks x = Check.told("n1;up1 1;");
        x.promises(0, 0);
        x.days();
        c.same("promises(0, 0)", x.promises(0, 0), STATE);
        c.same("person(0, 4)", x.person(0, 4), 1);
        c.same("now(5)", x.now(5), 2);
    }

    static void p09PromiseThatWasTold(Check c) {
        HalfPlanks x = Check.told("n1;up1 1;x0 0;");
        c.same("promises(0, 0)", x.promises(0, 0), STATE);
        c.same("person(0, 5)", x.person(0, 5), 0);
    }

    static void p09PromiseUnderWay(Check c) {
        HalfPlanks x = Check.told("n1;up1 2;");
        x.promises(0, 0);
        x.days();
        c.same("promises(0, 0)", x.promises(0, 0), STATE);
        c.same("days(): it comes on its day", x.days(), 1);
    }

    static void p09NoneAgainBehindBreaks(Check c) {
        HalfPlanks x = Check.told("n1;up1 2;x0 0;");
        x.breaks(0, 0);
        c.same("promises(0, 0)", x.promises(0, 0), 2);
        x.breaks(0, 0);
        x.days();
        c.same("promises(0, 0)", x.promises(0, 0), 3);
    }

    static void p09QuickestAndSlowest(Check c) {
        HalfPlanks x = Check.told("n1;up1 1;up1 5;");
        c.same("promises(0, 0)", x.promises(0, 0), 1);
        c.same("promises(1, 0)", x.promises(1, 0), 5);
    }

    static void p09CountedFromTheDay(Check c) {
        HalfPlanks x = Check.told("n1;up1 5;");
        Check.days(x, 7);
        c.same("promises(0, 0)", x.promises(0, 0), 12);
    }

    static void p09CrossesOneOfTheOtherBank(Check c) {
        HalfPlanks x = Check.told("n1;up1 5;vp1 5;");
        c.same("promises(0, 0)", x.promises(0, 0), 5);
        c.same("promises(1, 0)", x.promises(1, 0), 6);
        HalfPlanks y = Check.told("n1;up1 5;vp1 5;");
        c.same("promises(1, 0)", y.promises(1, 0), 5);
        c.same("promises(0, 0)", y.promises(0, 0), 6);
    }

    static void p09CrossesSeveralButOneDayMore(Check c) {
        HalfPlanks x = Check.told("n1;up1 5;up1 5;up1 5;vp1 1;");
        for (int a = 0; a < 3; a++) {
            c.same("promises(" + a + ", 0)", x.promises(a, 0), 5);
        }
        c.same("promises(3, 0)", x.promises(3, 0), 2);
    }

    static void p09TheOneThatWasCrossedComesAsPosted(Check c) {
        HalfPlanks x = Check.told("n1;up1 1;vp1 1;");
        x.promises(0, 0);
        x.promises(1, 0);
        c.same("days()", x.days(), 1);
        c.same("plank(0, 1)", x.plank(0, 1), 1);
        c.same("days()", x.days(), 1);
        c.same("plank(0, 2)", x.plank(0, 2), 2);
    }

    static void p09OneOfItsBankIsNotCrossed(Check c) {
        HalfPlanks x = Check.told("n1;up1 5;up1 1;");
        x.promises(0, 0);
        c.same("promises(1, 0)", x.promises(1, 0), 1);
    }

    static void p09OneForAnotherPlankIsNotCrossed(Check c) {
        HalfPlanks x = Check.told("n2;up1 5;vp1 1;");
        x.promises(0, 0);
        c.same("promises(1, 1)", x.promises(1, 1), 1);
    }

    static void p09OneThatCameIsNotCrossed(Check c) {
        HalfPlanks x = Check.told("n1;up1 2;vp1 1;");
        x.promises(0, 0);
        Check.days(x, 2);
        c.same("promises(1, 0)", x.promises(1, 0), 3);
    }

    static void p09OneOnTheDayBeforeItComesIsCrossed(Check c) {
        HalfPlanks x = Check.told("n1;up1 2;vp1 1;");
        x.promises(0, 0);
        x.days();
        c.same("promises(1, 0)", x.promises(1, 0), 3);
    }

    static void p09OneThatWasBrokenIsNotCrossed(Check c) {
        HalfPlanks x = Check.told("n1;up1 5;vp1 1;");
        x.promises(0, 0);
        x.breaks(0, 0);
        c.same("promises(1, 0)", x.promises(1, 0), 1);
    }

    static void p09SwornCrossesByItsBank(Check c) {
        HalfPlanks x = Check.told("n1;us1 5;up1 1;vp1 1;us1 1;");
        x.promises(0, 0);
        c.same("promises(1, 0)", x.promises(1, 0), 1);
        c.same("promises(2, 0)", x.promises(2, 0), 2);
        HalfPlanks y = Check.told("n1;up1 5;us1 1;vs1 1;");
        y.promises(0, 0);
        c.same("promises(1, 0)", y.promises(1, 0), 1);
        c.same("promises(2, 0)", y.promises(2, 0), 2);
    }

    // ---- 10: "BROKEN: what THE BRIDGE bears then. BAD; STATE: it is none."

    static void p10NoSuchPersonOrPlank(Check c) {
        HalfPlanks x = Check.told(HELD);
        c.same("breaks(-1, 0)", x.breaks(-1, 0), BAD);
        c.same("breaks(2, 0)", x.breaks(2, 0), BAD);
        c.same("breaks(0, -1)", x.breaks(0, -1), BAD);
        c.same("breaks(0, 1)", x.breaks(0, 1), BAD);
        for (int far : FAR) {
            c.same("breaks(" + far + ", 0)", x.breaks(far, 0), BAD);
            c.same("breaks(0, " + far + ")", x.breaks(0, far), BAD);
        }
        c.same("now(1)", x.now(1), 7);
    }

    static void p10PromiseThatIsNone(Check c) {
        HalfPlanks x = Check.told("n2;up1 1;x0 0;");
        c.same("breaks(0, 1)", x.breaks(0, 1), STATE);
        c.same("now(5)", x.now(5), 0);
    }

    static void p10PromiseThatWasBroken(Check c) {
        HalfPlanks x = Check.told(HELD);
        c.same("breaks(0, 0)", x.breaks(0, 0), 0);
        c.same("breaks(0, 0)", x.breaks(0, 0), STATE);
        c.same("now(5)", x.now(5), 1);
    }

    static void p10PromiseUnderWayNeverComes(Check c) {
        HalfPlanks x = Check.told("n1;up1 1;vp1 1;x0 0;");
        x.promises(1, 0);
        c.same("breaks(1, 0)", x.breaks(1, 0), 0);
        c.same("now(4)", x.now(4), 0);
        c.same("days()", x.days(), 0);
        c.same("plank(0, 2)", x.plank(0, 2), 0);
    }

    static void p10PromiseForThatPlankAlone(Check c) {
        HalfPlanks x = Check.told("n2;up1 1;vp1 1;x0 0;x1 0;x0 1;x1 1;");
        c.same("breaks(0, 0)", x.breaks(0, 0), 0);
        c.same("person(0, 4)", x.person(0, 4), 2);
        c.same("person(1, 4)", x.person(1, 4), 3);
    }

    static void p10TheBridgeMayBearLess(Check c) {
        HalfPlanks x = Check.told(HELD + "vp1 1;x2 0;");
        c.same("breaks(1, 0)", x.breaks(1, 0), 5);
    }

    static void p10TheBridgeMayBearMore(Check c) {
        HalfPlanks x = Check.told("n1;us1 1;ul9 1;vl9 1;x0 0;x1 0;x2 0;");
        c.same("now(1)", x.now(1), 0);
        c.same("breaks(0, 0)", x.breaks(0, 0), 36);
    }

    // ---- 11: "A DAY goes by: how many PROMISES come. STATE: it is 999."

    static void p11NothingComes(Check c) {
        HalfPlanks x = new HalfPlanks();
        c.same("days()", x.days(), 0);
        c.same("now(0)", x.now(0), 1);
    }

    static void p11ComesOnItsDayNotAheadOfIt(Check c) {
        for (int slow = 1; slow <= 5; slow++) {
            HalfPlanks x = Check.told("n1;up1 " + slow + ";");
            x.promises(0, 0);
            for (int day = 1; day <= 6; day++) {
                c.same("day " + day + " of slow " + slow, x.days(), day == slow ? 1 : 0);
                c.same("came on day " + day, x.person(0, 4), day >= slow ? 1 : 0);
            }
        }
    }

    static void p11AllComeOnOneDay(Check c) {
        HalfPlanks x = Check.told("n8;" + EIGHT_OF_A_BANK);
        for (int i = 0; i < 64; i++) {
            x.promises(i / 8, i % 8);
        }
        c.same("days()", x.days(), 64);
        c.same("days()", x.days(), 0);
    }

    static void p11WhatWasToldDoesNotComeAgain(Check c) {
        c.same("days()", Check.told(HELD).days(), 0);
    }

    static void p11LastDay(Check c) {
        HalfPlanks x = Check.told("n1;up1 5;");
        // 999 days are more calls than an object is promised for; it keeps its word all the same.
        Check.days(x, 998);
        c.same("days() to 999", x.days(), 0);
        x.promises(0, 0);
        c.same("days() behind 999", x.days(), STATE);
        c.same("now(0)", x.now(0), 999);
        c.same("now(4)", x.now(4), 1);
        x.undo();
        c.same("undo()", x.undo(), 8);
        c.same("days() again", x.days(), 0);
        c.same("days() behind it", x.days(), STATE);
    }

    // ---- 12: "CROSSED: how often one did. BAD; STATE: THE BRIDGE does not bear it, 999."

    static void p12LoadTooSmallOrTooLarge(Check c) {
        HalfPlanks x = Check.told("n1;ul9 1;vl9 1;x0 0;x1 0;");
        c.same("crosses(0)", x.crosses(0), BAD);
        c.same("crosses(37)", x.crosses(37), BAD);
        c.same("crosses(-1)", x.crosses(-1), BAD);
        c.same("crosses(MIN)", x.crosses(Integer.MIN_VALUE), BAD);
        c.same("crosses(MAX)", x.crosses(Integer.MAX_VALUE), BAD);
        c.same("now(3)", x.now(3), 0);
        c.same("now(5)", x.now(5), 0);
    }

    static void p12LeastAndGreatestLoad(Check c) {
        HalfPlanks x = Check.told("n1;ul9 1;vl9 1;x0 0;x1 0;");
        c.same("crosses(1)", x.crosses(1), 1);
        c.same("crosses(36)", x.crosses(36), 2);
    }

    static void p12JustWhatTheBridgeBears(Check c) {
        HalfPlanks x = Check.told(HELD);
        c.same("crosses(8)", x.crosses(8), STATE);
        c.same("crosses(7)", x.crosses(7), 1);
        c.same("crosses(8)", x.crosses(8), STATE);
        c.same("now(3)", x.now(3), 1);
    }

    static void p12NothingLies(Check c) {
        c.same("crosses(1)", new HalfPlanks().crosses(1), STATE);
        c.same("crosses(1)", Check.told("n2;up4 1;vp3 1;x0 0;x1 0;").crosses(1), STATE);
    }

    static void p12BadAheadOfState(Check c) {
        HalfPlanks x = new HalfPlanks();
        c.same("crosses(0)", x.crosses(0), BAD);
        c.same("crosses(37)", x.crosses(37), BAD);
        c.same("crosses(36)", x.crosses(36), STATE);
    }

    static void p12MostOften(Check c) {
        HalfPlanks x = Check.told(HELD);
        // 999 times are more calls than an object is promised for; it keeps its word all the same.
        for (int i = 1; i <= 999; i++) {
            c.same("crosses(1)", x.crosses(1), i);
        }
        c.same("crosses(1)", x.crosses(1), STATE);
        c.same("crosses(37)", x.crosses(37), BAD);
        c.same("now(3)", x.now(3), 999);
        c.same("undo()", x.undo(), 9);
        c.same("crosses(7)", x.crosses(7), 999);
    }

    // ---- 13: "UNDONE: how many more may be. STATE: none."

    static void p13NothingToUndo(Check c) {
        HalfPlanks x = Check.told(HELD);
        c.same("undo()", x.undo(), STATE);
        c.same("now(1)", x.now(1), 7);
    }

    static void p13EachOfTheFourIsUndone(Check c) {
        HalfPlanks x = Check.told(HELD + "vp2 1;");
        x.promises(2, 0);
        c.same("undo() of promises()", x.undo(), 0);
        c.same("now(4)", x.now(4), 0);
        x.breaks(0, 0);
        c.same("undo() of breaks()", x.undo(), 0);
        c.same("now(1)", x.now(1), 7);
        x.days();
        c.same("undo() of days()", x.undo(), 0);
        c.same("now(0)", x.now(0), 0);
        x.crosses(7);
        c.same("undo() of crosses()", x.undo(), 0);
        c.same("now(3)", x.now(3), 0);
        c.same("undo()", x.undo(), STATE);
    }

    static void p13WhatCameIsUnderWayAgain(Check c) {
        HalfPlanks x = Check.told("n1;up1 2;");
        x.promises(0, 0);
        Check.days(x, 2);
        x.breaks(0, 0);
        c.same("undo()", x.undo(), 3);
        c.same("person(0, 4)", x.person(0, 4), 1);
        c.same("undo()", x.undo(), 2);
        c.same("person(0, 5)", x.person(0, 5), 1);
        c.same("days()", x.days(), 1);
    }

    static void p13BrokenLetterIsUnderWayAgain(Check c) {
        HalfPlanks x = Check.told("n1;up1 5;vp1 1;");
        x.promises(0, 0);
        x.days();
        x.breaks(0, 0);
        x.undo();
        c.same("promises(1, 0) crosses it", x.promises(1, 0), 3);
        Check.days(x, 3);
        c.same("days(), to day 5", x.days(), 1);
    }

    static void p13LetterComesOnTheDayItWasToComeOn(Check c) {
        for (int p = 0; p < 8; p++) {
            HalfPlanks x = Check.told("n8;" + EIGHT_OF_A_BANK.replace(" 1", " 3"));
            int a = 7 - p;
            c.same("promises(a, p)", x.promises(a, p), 3);
            x.days();
            x.breaks(a, p);
            c.same("promises(a, p)", x.promises(a, p), 4);
            x.undo();
            c.same("undo()", x.undo(), 2);
            c.same("days(), to day 2", x.days(), 0);
            c.same("days(), to day 3", x.days(), 1);
        }
    }

    static void p13TenAreKnown(Check c) {
        HalfPlanks x = new HalfPlanks();
        Check.days(x, 10);
        for (int left = 9; left >= 0; left--) {
            c.same("undo()", x.undo(), left);
        }
        c.same("now(0)", x.now(0), 0);
        c.same("undo()", x.undo(), STATE);
    }

    static void p13TheEleventhIsLost(Check c) {
        HalfPlanks x = new HalfPlanks();
        Check.days(x, 11);
        for (int left = 9; left >= 0; left--) {
            c.same("undo()", x.undo(), left);
        }
        c.same("now(0)", x.now(0), 1);
        c.same("undo()", x.undo(), STATE);
    }

    static void p13KnownOnesGoRoundAndRound(Check c) {
        HalfPlanks x = new HalfPlanks();
        int day = 0;
        for (int round = 1; round <= 12; round++) {
            Check.days(x, round);
            day += round;
            int undone = Math.min(round / 2, x.now(5));
            for (int i = 0; i < undone; i++) {
                x.undo();
                day--;
                c.same("now(0)", x.now(0), day);
            }
        }
    }

    static void p13RefusedOnesAreNotUndone(Check c) {
        HalfPlanks x = Check.told(HELD);
        x.days();
        x.promises(0, 0);
        x.promises(2, 0);
        x.breaks(0, 1);
        x.crosses(8);
        x.crosses(0);
        c.same("now(5)", x.now(5), 1);
        c.same("undo()", x.undo(), 0);
        c.same("now(0)", x.now(0), 0);
    }

    static void p13OtherCallsAreNotUndone(Check c) {
        HalfPlanks x = Check.told(HELD);
        x.days();
        x.sees(3, 1);
        x.keep(0);
        x.rate(0, 0);
        x.type('n');
        x.winter(60, 1, 1);
        x.byTurns(3);
        c.same("undo()", x.undo(), 0);
        c.same("now(0)", x.now(0), 0);
        c.same("count(2)", x.count(2), 1);
        c.same("count(3)", x.count(3), 1);
        c.same("trace()", x.trace(), 1);
        c.same("back(0)", x.back(0), 1);
    }

    static void p13WhatIsUndoneIsNotKnown(Check c) {
        HalfPlanks x = new HalfPlanks();
        Check.days(x, 2);
        x.undo();
        c.same("undo()", x.undo(), 0);
        c.same("undo()", x.undo(), STATE);
        c.same("now(0)", x.now(0), 0);
    }
}
