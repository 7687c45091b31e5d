/** Promises 14 to 22 (what comes, what is best): one test for each edge that the document names. */
public final class PlanEdgesTest {
    private static final int BAD = -1, STATE = -2, NONE = -9;
    private static final int[] FAR = {Integer.MIN_VALUE, -256, -8, 64, 256, Integer.MAX_VALUE};
    /** One plank that bears 7, held by a plain one from either bank. */
    private static final String HELD = "n1;up4 1;vp3 1;x0 0;x1 0;";
    /** One plank that bears 36, by liars; a sworn one would spoil it. */
    private static final String LIARS = "n1;ul9 1;vl9 1;us1 2;x0 0;x1 0;";

    public static void main(String[] args) {
        Cases.runAll(PlanEdgesTest.class, 14, 22);
    }

    // ---- 14: "WHEN; NONE. BAD."

    static void p14LoadTooSmallOrTooLarge(Check c) {
        HalfPlanks x = Check.told(LIARS);
        c.same("when(0)", x.when(0), BAD);
        c.same("when(37)", x.when(37), BAD);
        for (int far : FAR) {
            c.same("when(" + far + ")", x.when(far), BAD);
        }
        c.same("when(1)", x.when(1), 0);
        c.same("when(36)", x.when(36), 0);
    }

    static void p14BehindNoDay(Check c) {
        HalfPlanks x = Check.told(HELD);
        c.same("when(7)", x.when(7), 0);
        c.same("when(8)", x.when(8), NONE);
    }

    static void p14NothingIsUnderWay(Check c) {
        c.same("when(1)", new HalfPlanks().when(1), NONE);
        c.same("when(1)", Check.told("n1;up1 1;vp1 1;").when(1), NONE);
    }

    static void p14FurthestDay(Check c) {
        HalfPlanks x = Check.told("n1;up1 5;vp1 5;");
        x.promises(0, 0);
        c.same("promises(1, 0)", x.promises(1, 0), 6);
        c.same("when(2)", x.when(2), 6);
        c.same("when(3)", x.when(3), NONE);
        for (int left = 5; left >= 0; left--) {
            x.days();
            c.same("when(2)", x.when(2), left);
        }
    }

    static void p14CountedFromTheDay(Check c) {
        HalfPlanks x = Check.told("n1;up1 3;vp1 1;x1 0;");
        Check.days(x, 9);
        x.promises(0, 0);
        c.same("when(2)", x.when(2), 3);
    }

    static void p14NothingElseDone(Check c) {
        HalfPlanks x = Check.told("n1;up1 1;vp1 1;");
        x.promises(0, 0);
        c.same("when(1)", x.when(1), NONE);
    }

    static void p14BearsOnOneDayOnly(Check c) {
        HalfPlanks x = Check.told("n1;ul9 1;vl9 1;us1 2;");
        x.promises(0, 0);
        x.promises(1, 0);
        c.same("promises(2, 0)", x.promises(2, 0), 3);
        c.same("when(36)", x.when(36), 2);
        Check.days(x, 2);
        c.same("when(36)", x.when(36), 0);
        x.days();
        c.same("when(36)", x.when(36), NONE);
    }

    static void p14AllPlanksOnTheSameDay(Check c) {
        HalfPlanks x = Check.told("n2;ul9 1;vl9 1;us1 2;x0 0;x1 0;");
        x.promises(2, 0);
        x.promises(0, 1);
        c.same("promises(1, 1)", x.promises(1, 1), 2);
        c.same("when(1)", x.when(1), NONE);
        HalfPlanks y = Check.told("n2;ul9 1;vl9 1;us1 3;x0 0;x1 0;");
        y.promises(2, 0);
        y.promises(0, 1);
        y.promises(1, 1);
        c.same("when(36)", y.when(36), 2);
    }

    static void p14NothingIsChanged(Check c) {
        HalfPlanks x = Check.told("n1;up1 2;vp1 1;x1 0;");
        x.promises(0, 0);
        x.when(2);
        c.same("now(0)", x.now(0), 0);
        c.same("now(4)", x.now(4), 1);
        c.same("now(5)", x.now(5), 1);
    }

    // ---- 15: "MORE (p a PLANK), FEWEST (p = -1); NONE. BAD."

    static void p15LoadTooSmallOrTooLarge(Check c) {
        HalfPlanks x = Check.told(LIARS);
        for (int p = -1; p <= 0; p++) {
            c.same("fewest(0, " + p + ")", x.fewest(0, p), BAD);
            c.same("fewest(37, " + p + ")", x.fewest(37, p), BAD);
            c.same("fewest(1, " + p + ")", x.fewest(1, p), 0);
            c.same("fewest(36, " + p + ")", x.fewest(36, p), 0);
            for (int far : FAR) {
                c.same("fewest(" + far + ", " + p + ")", x.fewest(far, p), BAD);
            }
        }
    }

    static void p15NoSuchPlank(Check c) {
        HalfPlanks x = Check.told(HELD);
        c.same("fewest(1, -2)", x.fewest(1, -2), BAD);
        c.same("fewest(1, 1)", x.fewest(1, 1), BAD);
        for (int far : FAR) {
            c.same("fewest(1, " + far + ")", x.fewest(1, far), BAD);
        }
    }

    static void p15NoMore(Check c) {
        HalfPlanks x = Check.told(HELD);
        c.same("fewest(7, 0)", x.fewest(7, 0), 0);
        c.same("fewest(7, -1)", x.fewest(7, -1), 0);
        c.same("fewest(8, 0)", x.fewest(8, 0), NONE);
    }

    static void p15OneMore(Check c) {
        HalfPlanks x = Check.told(HELD + "vp5 1;");
        c.same("fewest(8, 0)", x.fewest(8, 0), 1);
        c.same("fewest(9, 0)", x.fewest(9, 0), 1);
        c.same("fewest(10, 0)", x.fewest(10, 0), NONE);
    }

    static void p15TwoMore(Check c) {
        HalfPlanks x = Check.told(HELD + "vp5 1;up9 1;");
        c.same("fewest(12, 0)", x.fewest(12, 0), 1);
        c.same("fewest(13, 0)", x.fewest(13, 0), 2);
        c.same("fewest(14, 0)", x.fewest(14, 0), 2);
        c.same("fewest(15, 0)", x.fewest(15, 0), NONE);
    }

    static void p15Nobody(Check c) {
        HalfPlanks x = new HalfPlanks();
        c.same("fewest(1, 0)", x.fewest(1, 0), NONE);
        c.same("fewest(1, -1)", x.fewest(1, -1), NONE);
    }

    static void p15OnePersonAlone(Check c) {
        c.same("fewest(1, 0)", Check.told("us9 1;").fewest(1, 0), NONE);
    }

    static void p15AllPlanksTogether(Check c) {
        HalfPlanks x = Check.told("n8;up1 1;vp1 1;");
        c.same("fewest(2, -1)", x.fewest(2, -1), 16);
        x.promises(0, 7);
        c.same("fewest(2, -1)", x.fewest(2, -1), 15);
        c.same("fewest(2, 7)", x.fewest(2, 7), 1);
        c.same("fewest(3, -1)", x.fewest(3, -1), NONE);
    }

    static void p15NoneOfOnePlankIsNone(Check c) {
        HalfPlanks x = Check.told("n2;um9 1;vm9 1;");
        c.same("fewest(19, 1)", x.fewest(19, 1), 2);
        c.same("fewest(36, 1)", x.fewest(36, 1), 2);
        c.same("fewest(19, 0)", x.fewest(19, 0), NONE);
        c.same("fewest(19, -1)", x.fewest(19, -1), NONE);
        c.same("fewest(18, -1)", x.fewest(18, -1), 4);
    }

    static void p15UnderWayIsAsIfItCame(Check c) {
        HalfPlanks x = Check.told("n1;up4 5;vp3 1;x1 0;");
        c.same("fewest(7, 0)", x.fewest(7, 0), 1);
        x.promises(0, 0);
        c.same("fewest(7, 0)", x.fewest(7, 0), 0);
    }

    static void p15SwornUnderWaySpoilsLiars(Check c) {
        HalfPlanks x = Check.told(LIARS);
        x.promises(2, 0);
        c.same("fewest(1, 0)", x.fewest(1, 0), NONE);
        c.same("fewest(1, -1)", x.fewest(1, -1), NONE);
    }

    static void p15SwornOneNeedNotBeAdded(Check c) {
        HalfPlanks x = Check.told("n1;us1 1;ul9 1;vl9 1;x1 0;");
        c.same("fewest(36, 0)", x.fewest(36, 0), 1);
        c.same("fewest(2, 0)", x.fewest(2, 0), 1);
    }

    static void p15BrokenOnesMayGiveAgain(Check c) {
        HalfPlanks x = Check.told(HELD);
        x.breaks(0, 0);
        c.same("fewest(7, 0)", x.fewest(7, 0), 1);
        x.breaks(1, 0);
        c.same("fewest(7, 0)", x.fewest(7, 0), 2);
    }

    // ---- 16: "SOON; NONE. BAD."

    static void p16LoadTooSmallOrTooLarge(Check c) {
        HalfPlanks x = Check.told(LIARS);
        c.same("soon(0)", x.soon(0), BAD);
        c.same("soon(37)", x.soon(37), BAD);
        for (int far : FAR) {
            c.same("soon(" + far + ")", x.soon(far), BAD);
        }
        c.same("soon(1)", x.soon(1), 0);
        c.same("soon(36)", x.soon(36), 0);
    }

    static void p16BehindNoDay(Check c) {
        HalfPlanks x = Check.told(HELD + "vp5 2;");
        c.same("soon(7)", x.soon(7), 0);
        c.same("soon(8)", x.soon(8), 2);
        c.same("soon(9)", x.soon(9), 2);
        c.same("soon(10)", x.soon(10), NONE);
    }

    static void p16Nobody(Check c) {
        c.same("soon(1)", new HalfPlanks().soon(1), NONE);
        c.same("soon(1)", Check.told("us9 1;").soon(1), NONE);
    }

    static void p16NoneCrosses(Check c) {
        for (int slow = 1; slow <= 5; slow++) {
            HalfPlanks x = Check.told("n1;up1 " + slow + ";vp1 " + slow + ";");
            c.same("soon(2), slow " + slow, x.soon(2), slow);
        }
    }

    static void p16NoneCrossesWhatIsUnderWay(Check c) {
        HalfPlanks x = Check.told("n1;up1 5;vp1 5;");
        x.promises(0, 0);
        c.same("soon(2)", x.soon(2), 5);
    }

    static void p16ThoseWhoGaveOneDoNotPostAgain(Check c) {
        HalfPlanks x = Check.told("n1;up1 5;vp1 1;");
        x.promises(0, 0);
        c.same("promises(1, 0)", x.promises(1, 0), 2);
        c.same("soon(2)", x.soon(2), 5);
        HalfPlanks y = Check.told("n1;vp1 5;up1 5;");
        y.promises(0, 0);
        c.same("promises(1, 0)", y.promises(1, 0), 6);
        c.same("soon(2)", y.soon(2), 6);
    }

    static void p16QuickestOfThoseWhoAreEnough(Check c) {
        HalfPlanks x = Check.told("n1;up9 5;up2 3;up1 1;vp1 1;");
        c.same("soon(2)", x.soon(2), 1);
        c.same("soon(3)", x.soon(3), 3);
        c.same("soon(4)", x.soon(4), 5);
        c.same("soon(10)", x.soon(10), 5);
        c.same("soon(11)", x.soon(11), NONE);
    }

    static void p16OnePersonForAllPlanks(Check c) {
        c.same("soon(2)", Check.told("n8;up1 4;vp1 1;").soon(2), 4);
    }

    static void p16EachPlankMust(Check c) {
        HalfPlanks x = Check.told("n2;um9 1;vm9 1;");
        c.same("soon(18)", x.soon(18), 1);
        c.same("soon(19)", x.soon(19), NONE);
    }

    static void p16LatestPlankTells(Check c) {
        HalfPlanks x = Check.told("n2;up1 1;vp1 4;x0 0;x1 0;");
        c.same("soon(2)", x.soon(2), 4);
    }

    static void p16SwornUnderWaySpoilsLiarsLater(Check c) {
        HalfPlanks x = Check.told("n1;ul9 1;vl9 1;us1 2;");
        x.promises(2, 0);
        c.same("soon(36)", x.soon(36), 1);
        x.days();
        c.same("soon(36)", x.soon(36), NONE);
    }

    static void p16NothingIsChanged(Check c) {
        HalfPlanks x = Check.told("n1;up1 2;vp1 1;");
        x.soon(2);
        c.same("now(4)", x.now(4), 0);
        c.same("now(5)", x.now(5), 0);
        c.same("promises(0, 0)", x.promises(0, 0), 2);
    }

    // ---- 17: "PAIR. BAD; STATE: one BANK, one gave one for it, one is UNDER WAY for it."

    static void p17NoSuchPersonOrPlank(Check c) {
        HalfPlanks x = Check.told("n2;up1 1;vp1 1;");
        c.same("pair(-1, 1, 0)", x.pair(-1, 1, 0), BAD);
        c.same("pair(2, 1, 0)", x.pair(2, 1, 0), BAD);
        c.same("pair(0, -1, 0)", x.pair(0, -1, 0), BAD);
        c.same("pair(0, 2, 0)", x.pair(0, 2, 0), BAD);
        c.same("pair(0, 1, -1)", x.pair(0, 1, -1), BAD);
        c.same("pair(0, 1, 2)", x.pair(0, 1, 2), BAD);
        for (int far : FAR) {
            c.same("pair(" + far + ", 1, 0)", x.pair(far, 1, 0), BAD);
            c.same("pair(0, " + far + ", 0)", x.pair(0, far, 0), BAD);
            c.same("pair(0, 1, " + far + ")", x.pair(0, 1, far), BAD);
        }
    }

    static void p17BadAheadOfState(Check c) {
        HalfPlanks x = Check.told("n1;up1 1;up1 1;x0 0;");
        x.promises(1, 0);
        c.same("pair(0, 0, 1)", x.pair(0, 0, 1), BAD);
        c.same("pair(0, 2, 0)", x.pair(0, 2, 0), BAD);
        c.same("pair(2, 0, 0)", x.pair(2, 0, 0), BAD);
        c.same("pair(0, 1, 0)", x.pair(0, 1, 0), STATE);
    }

    static void p17OneBank(Check c) {
        HalfPlanks x = Check.told("n1;up1 1;us1 1;vp1 1;vs1 1;");
        c.same("pair(0, 1, 0)", x.pair(0, 1, 0), STATE);
        c.same("pair(3, 2, 0)", x.pair(3, 2, 0), STATE);
        c.same("pair(1, 3, 0)", x.pair(1, 3, 0), 2);
    }

    static void p17OneAndTheSame(Check c) {
        c.same("pair(0, 0, 0)", Check.told("us1 1;vs1 1;").pair(0, 0, 0), STATE);
    }

    static void p17OneGaveOneThatCame(Check c) {
        HalfPlanks x = Check.told("n2;up1 1;vp1 1;x0 0;");
        c.same("pair(0, 1, 0)", x.pair(0, 1, 0), STATE);
        c.same("pair(1, 0, 0)", x.pair(1, 0, 0), STATE);
        c.same("pair(0, 1, 1)", x.pair(0, 1, 1), 2);
    }

    static void p17OneGaveOneThatIsUnderWay(Check c) {
        HalfPlanks x = Check.told("n2;up1 1;vp1 1;");
        x.promises(0, 0);
        c.same("pair(0, 1, 0)", x.pair(0, 1, 0), STATE);
        c.same("pair(1, 0, 0)", x.pair(1, 0, 0), STATE);
        c.same("pair(0, 1, 1)", x.pair(0, 1, 1), 2);
    }

    static void p17AnotherIsUnderWay(Check c) {
        HalfPlanks x = Check.told("n2;up1 1;vp1 1;up1 1;");
        x.promises(2, 0);
        c.same("pair(0, 1, 0)", x.pair(0, 1, 0), STATE);
        c.same("pair(0, 1, 1)", x.pair(0, 1, 1), 2);
        x.days();
        c.same("pair(0, 1, 0), it came", x.pair(0, 1, 0), 2);
    }

    static void p17BrokenIsNone(Check c) {
        HalfPlanks x = Check.told("n1;up1 1;vp1 1;x0 0;");
        x.breaks(0, 0);
        c.same("pair(0, 1, 0)", x.pair(0, 1, 0), 2);
    }

    static void p17AnySlowness(Check c) {
        for (int one = 1; one <= 5; one++) {
            for (int other = 1; other <= 5; other++) {
                HalfPlanks x = Check.told("n1;up1 " + one + ";vp1 " + other + ";");
                // The quicker one posts second: its day more is lost only if both are alike.
                int due = one == other ? one + 1 : Math.max(one, other);
                c.same("pair(0, 1, 0), slow " + one + ", " + other, x.pair(0, 1, 0), due);
                c.same("pair(1, 0, 0), slow " + one + ", " + other, x.pair(1, 0, 0), due);
            }
        }
    }

    static void p17NothingIsChanged(Check c) {
        HalfPlanks x = Check.told("n1;up1 1;vp1 1;");
        x.pair(0, 1, 0);
        c.same("now(4)", x.now(4), 0);
        c.same("pair(0, 1, 0)", x.pair(0, 1, 0), 2);
    }

    // ---- 18: "ENOUGH (bits); NONE. BAD."

    static void p18LoadTooSmallOrTooLarge(Check c) {
        HalfPlanks x = Check.told("n1;ul9 1;vl9 1;");
        c.same("enough(0)", x.enough(0), BAD);
        c.same("enough(37)", x.enough(37), BAD);
        for (int far : FAR) {
            c.same("enough(" + far + ")", x.enough(far), BAD);
        }
        c.same("enough(1)", x.enough(1), 3);
        c.same("enough(36)", x.enough(36), 3);
    }

    static void p18Nobody(Check c) {
        c.same("enough(1)", new HalfPlanks().enough(1), NONE);
    }

    static void p18OneIsNeverEnough(Check c) {
        c.same("enough(1)", Check.told("us9 1;").enough(1), NONE);
        c.same("enough(1)", Check.told("us9 1;up9 1;").enough(1), 3);
    }

    static void p18NotOfOneBank(Check c) {
        c.same("enough(1)", Check.told("up9 1;um9 1;ul9 1;uc9 1;").enough(1), NONE);
    }

    static void p18LoadJustBorne(Check c) {
        HalfPlanks x = Check.told("n1;up4 1;vp3 1;");
        c.same("enough(7)", x.enough(7), 3);
        c.same("enough(8)", x.enough(8), NONE);
    }

    static void p18OfLikeFewTheLeastNumber(Check c) {
        // 10 is borne by 0 and 3 (9), by 1 and 2 (6), by 2 and 3 (12).
        HalfPlanks x = Check.told("n1;up5 1;vp4 1;up6 1;vp5 1;");
        c.same("enough(10)", x.enough(10), 6);
        c.same("enough(11)", x.enough(11), 12);
        c.same("enough(9)", x.enough(9), 3);
    }

    static void p18TheLastTwo(Check c) {
        HalfPlanks x = Check.told("n1;up1 1;up1 1;up1 1;up1 1;vp1 1;vp1 1;up9 1;vp9 1;");
        c.same("enough(18)", x.enough(18), 192);
    }

    static void p18EachPlank(Check c) {
        HalfPlanks x = Check.told("n2;um9 1;vm9 1;");
        c.same("enough(18)", x.enough(18), 3);
        c.same("enough(19)", x.enough(19), NONE);
    }

    static void p18PromisesThatThereAreDoNotCount(Check c) {
        HalfPlanks x = Check.told("n1;us1 1;ul9 1;vl9 1;x0 0;");
        c.same("enough(36)", x.enough(36), 6);
        HalfPlanks y = Check.told("n2;up1 1;vp1 1;x0 0;x1 0;");
        c.same("enough(2)", y.enough(2), 3);
    }

    static void p18SwornOneAmongThemSpoilsLiars(Check c) {
        c.same("enough(1)", Check.told("n1;us9 1;vl9 1;").enough(1), NONE);
    }

    // ---- 19: "FRIENDS. BAD."

    static void p19LoadTooSmallOrTooLarge(Check c) {
        HalfPlanks x = Check.told("n1;ul9 1;vl9 1;");
        c.same("friends(0)", x.friends(0), BAD);
        c.same("friends(37)", x.friends(37), BAD);
        for (int far : FAR) {
            c.same("friends(" + far + ")", x.friends(far), BAD);
        }
        c.same("friends(1)", x.friends(1), 1);
        c.same("friends(36)", x.friends(36), 1);
    }

    static void p19Nobody(Check c) {
        c.same("friends(1)", new HalfPlanks().friends(1), 0);
    }

    static void p19OneAlone(Check c) {
        c.same("friends(1)", Check.told("us9 1;").friends(1), 0);
    }

    static void p19NotOfOneBank(Check c) {
        c.same("friends(1)", Check.told("up9 1;um9 1;ul9 1;uc9 1;").friends(1), 0);
    }

    static void p19LoadJustBorne(Check c) {
        HalfPlanks x = Check.told("up4 1;vp3 1;");
        c.same("friends(7)", x.friends(7), 1);
        c.same("friends(8)", x.friends(8), 0);
    }

    static void p19NoneOnTwoPlanks(Check c) {
        c.same("friends(2)", Check.told("n8;up1 1;vp1 1;").friends(2), 1);
        c.same("friends(2)", Check.told("n8;us1 1;vp1 1;us1 1;").friends(2), 1);
        c.same("friends(2), one of bank 1", Check.told("n8;up1 1;up1 1;up1 1;vp1 1;").friends(2), 1);
        c.same("friends(2), one of bank 0", Check.told("n8;up1 1;vp1 1;vp1 1;vp1 1;").friends(2), 1);
    }

    static void p19AsManyAsThereArePlanks(Check c) {
        String four = "up1 1;vp1 1;up1 1;vp1 1;";
        c.same("friends(2)", Check.told("n1;" + four).friends(2), 1);
        c.same("friends(2)", Check.told("n2;" + four).friends(2), 2);
    }

    static void p19AllEightOnFourPlanks(Check c) {
        String eight = "up1 1;".repeat(4) + "vp1 1;".repeat(4);
        c.same("friends(2), 3 planks", Check.told(eight).friends(2), 3);
        c.same("friends(2), 4 planks", Check.told("n4;" + eight).friends(2), 4);
        c.same("friends(2), 8 planks", Check.told("n8;" + eight).friends(2), 4);
        c.same("friends(2), sworn ones", Check.told("n8;" + "us1 1;".repeat(8)).friends(2), 4);
    }

    static void p19TheBestTwoNeedNotBeFriends(Check c) {
        HalfPlanks x = Check.told("n2;up9 1;vp9 1;up1 1;vp1 1;");
        c.same("friends(10)", x.friends(10), 2);
        c.same("friends(11)", x.friends(11), 1);
        // Only 0 and 1, 2 and 3, 0 and 3 bear it here; only 0 and 2, 1 and 3, 0 and 3 there.
        c.same("friends(10)", Check.told("n2;up9 1;vp1 1;up1 1;vp9 1;").friends(10), 2);
        c.same("friends(10)", Check.told("n2;up9 1;up1 1;vp1 1;vp9 1;").friends(10), 2);
    }

    static void p19UnevenPlanksForMerchants(Check c) {
        String four = "um9 1;vm9 1;um9 1;vm9 1;";
        c.same("friends(36), 1 plank", Check.told("n1;" + four).friends(36), 0);
        c.same("friends(36), 2 planks", Check.told("n2;" + four).friends(36), 1);
        c.same("friends(36), 3 planks", Check.told("n3;" + four).friends(36), 1);
        c.same("friends(36), 4 planks", Check.told("n4;" + four).friends(36), 2);
    }

    static void p19SwornWithALiar(Check c) {
        c.same("friends(1)", Check.told("us9 1;vl9 1;").friends(1), 0);
    }

    static void p19PromisesThatThereAreDoNotCount(Check c) {
        HalfPlanks x = Check.told("n1;us1 1;ul9 1;vl9 1;x0 0;");
        c.same("friends(36)", x.friends(36), 1);
        c.same("friends(7)", Check.told(HELD).friends(7), 1);
    }

    // ---- 20: "TURNS. BAD."

    static void p20TooFewOrTooManyTurns(Check c) {
        HalfPlanks x = Check.told(HELD);
        c.same("byTurns(-1)", x.byTurns(-1), BAD);
        c.same("byTurns(4)", x.byTurns(4), BAD);
        for (int far : FAR) {
            c.same("byTurns(" + far + ")", x.byTurns(far), BAD);
        }
    }

    static void p20Nobody(Check c) {
        HalfPlanks x = new HalfPlanks();
        for (int n = 0; n <= 3; n++) {
            c.same("byTurns(" + n + ")", x.byTurns(n), 0);
        }
    }

    static void p20NoTurnIsTheBridgeAsItIs(Check c) {
        c.same("byTurns(0)", Check.told(HELD).byTurns(0), 7);
        c.same("byTurns(0)", Check.told(LIARS).byTurns(0), 36);
        c.same("byTurns(0)", Check.told("n1;up4 1;").byTurns(0), 0);
    }

    static void p20OneTurnBreaks(Check c) {
        HalfPlanks x = Check.told(HELD + "vp2 1;x2 0;up1 1;x3 0;");
        // Without 0: 1 + 3; without 1: 4 + 2.
        c.same("byTurns(1)", x.byTurns(1), 4);
    }

    static void p20AllPromisesOfThatOneAreBroken(Check c) {
        HalfPlanks x = Check.told("n2;up1 1;vp1 1;x0 0;x1 0;x0 1;x1 1;");
        c.same("byTurns(1)", x.byTurns(1), 0);
        c.same("byTurns(2), one plank is mended", x.byTurns(2), 0);
        HalfPlanks y = Check.told("n1;up1 1;vp1 1;x0 0;x1 0;");
        c.same("byTurns(2), the only plank is mended", y.byTurns(2), 2);
    }

    static void p20TwoTurnsMendByOneWhoGaveNone(Check c) {
        HalfPlanks x = Check.told("n1;up4 1;vp3 1;vp9 1;x0 0;x1 0;");
        // Without 0 it is back, 7; without 1 the other comes, 13.
        c.same("byTurns(2)", x.byTurns(2), 7);
        HalfPlanks y = Check.told("n1;up4 1;vp3 1;vp9 1;up8 1;x0 0;x1 0;");
        c.same("byTurns(2)", y.byTurns(2), 11);
    }

    static void p20TwoTurnsMendByALetterUnderWay(Check c) {
        HalfPlanks x = Check.told("n1;up4 1;vp3 1;vp9 5;up8 5;x0 0;x1 0;");
        x.promises(2, 0);
        x.promises(3, 0);
        c.same("byTurns(1)", x.byTurns(1), 0);
        // Without 0: 8 and 3; without 1: 4 and 9; without one under way: 12 and 13.
        c.same("byTurns(2)", x.byTurns(2), 11);
    }

    static void p20MendingMayBeNothing(Check c) {
        // If it is the sworn one whose promises, none, are broken, its own are all that could come.
        HalfPlanks x = Check.told(LIARS);
        c.same("byTurns(1)", x.byTurns(1), 0);
        c.same("byTurns(2)", x.byTurns(2), 36);
    }

    static void p20OnePlankIsMendedOfTwo(Check c) {
        HalfPlanks x = Check.told("n2;up5 1;up4 1;vp5 1;vp4 1;x0 0;x1 0;x2 0;x3 0;x0 1;x1 1;x2 1;x3 1;");
        c.same("byTurns(1)", x.byTurns(1), 9);
        c.same("byTurns(2)", x.byTurns(2), 9);
        c.same("byTurns(3)", x.byTurns(3), 0);
    }

    static void p20ThreeTurnsBreakAgain(Check c) {
        HalfPlanks x = Check.told(HELD);
        c.same("byTurns(3)", x.byTurns(3), 0);
        // One of bank 0 breaks and is back; then the better one of bank 1 breaks.
        HalfPlanks y = Check.told("n1;up9 1;up8 1;vp9 1;vp1 1;x0 0;x1 0;x2 0;x3 0;");
        c.same("byTurns(1)", y.byTurns(1), 10);
        c.same("byTurns(2)", y.byTurns(2), 17 + 1);
        c.same("byTurns(3)", y.byTurns(3), 10);
    }

    static void p20AnyOneMayBeTheLastToBreak(Check c) {
        String[] four = {"up9 1;", "up1 1;", "vp9 1;", "vp8 1;"};
        for (int first = 0; first < 4; first++) {
            StringBuilder text = new StringBuilder("n1;");
            for (int i = 0; i < 4; i++) {
                text.append(four[(first + i) % 4]);
            }
            HalfPlanks x = Check.told(text + "x0 0;x1 0;x2 0;x3 0;");
            // The 9 of bank 0 breaks, is back, and breaks again.
            c.same("byTurns(1)", x.byTurns(1), 10);
            c.same("byTurns(2)", x.byTurns(2), 18);
            c.same("byTurns(3)", x.byTurns(3), 10);
        }
    }

    static void p20NothingIsChanged(Check c) {
        HalfPlanks x = Check.told(HELD);
        for (int n = 0; n <= 3; n++) {
            x.byTurns(n);
        }
        c.same("now(1)", x.now(1), 7);
        c.same("now(5)", x.now(5), 0);
        c.same("person(0, 4)", x.person(0, 4), 1);
    }

    // ---- 21: "ODDS: upper (what = 0), lower number (1), in least terms. BAD."

    private static void odds(Check c, HalfPlanks x, int by, int load, int upper, int lower) {
        c.same("odds(" + by + ", " + load + ", 0)", x.odds(by, load, 0), upper);
        c.same("odds(" + by + ", " + load + ", 1)", x.odds(by, load, 1), lower);
    }

    static void p21TooSmallOrTooLarge(Check c) {
        HalfPlanks x = Check.told(HELD);
        for (int what = 0; what <= 1; what++) {
            c.same("odds(-1, 1, what)", x.odds(-1, 1, what), BAD);
            c.same("odds(11, 1, what)", x.odds(11, 1, what), BAD);
            c.same("odds(0, 0, what)", x.odds(0, 0, what), BAD);
            c.same("odds(0, 37, what)", x.odds(0, 37, what), BAD);
        }
        c.same("odds(0, 1, -1)", x.odds(0, 1, -1), BAD);
        c.same("odds(0, 1, 2)", x.odds(0, 1, 2), BAD);
        for (int far : FAR) {
            c.same("odds(" + far + ", 1, 0)", x.odds(far, 1, 0), BAD);
            c.same("odds(0, " + far + ", 0)", x.odds(0, far, 0), BAD);
            c.same("odds(0, 1, " + far + ")", x.odds(0, 1, far), BAD);
        }
    }

    static void p21LeastAndGreatestLoad(Check c) {
        HalfPlanks x = Check.told(LIARS);
        odds(c, x, 0, 1, 1, 1);
        odds(c, x, 0, 36, 1, 1);
    }

    static void p21NeverBroken(Check c) {
        HalfPlanks x = Check.told(HELD);
        odds(c, x, 0, 7, 1, 1);
        odds(c, x, 0, 8, 0, 1);
    }

    static void p21AlwaysBroken(Check c) {
        odds(c, Check.told(HELD), 10, 1, 0, 1);
        odds(c, Check.told(LIARS), 10, 1, 0, 1);
    }

    static void p21Nobody(Check c) {
        for (int by = 0; by <= 10; by++) {
            odds(c, new HalfPlanks(), by, 1, 0, 1);
        }
    }

    static void p21LeastTerms(Check c) {
        HalfPlanks x = Check.told(HELD);
        odds(c, x, 1, 7, 81, 100);
        odds(c, x, 2, 7, 16, 25);
        odds(c, x, 5, 7, 1, 4);
        odds(c, x, 9, 7, 1, 100);
        odds(c, x, 5, 8, 0, 1);
    }

    static void p21ThoseWithoutPromisesDoNotMatter(Check c) {
        HalfPlanks x = Check.told(HELD + "up9 1;vp9 1;us9 1;vs9 1;ul9 1;vl9 1;");
        odds(c, x, 1, 7, 81, 100);
        odds(c, x, 5, 7, 1, 4);
    }

    static void p21UnderWayDoesNotBear(Check c) {
        HalfPlanks x = Check.told("n1;up4 1;vp3 1;vp9 1;x0 0;x1 0;");
        x.promises(2, 0);
        odds(c, x, 0, 8, 0, 1);
        odds(c, x, 5, 7, 1, 4);
    }

    static void p21SwornOneMustBreakForLiars(Check c) {
        HalfPlanks x = Check.told("n1;us1 1;ul9 1;vl9 1;x0 0;x1 0;x2 0;");
        odds(c, x, 0, 36, 0, 1);
        odds(c, x, 1, 36, 81, 1000);
        odds(c, x, 9, 36, 9, 1000);
        odds(c, x, 10, 36, 0, 1);
    }

    static void p21GreatestLowerNumber(Check c) {
        HalfPlanks x = Check.told("n1;" + "up1 1;".repeat(4) + "vp1 1;".repeat(4)
            + "x0 0;x1 0;x2 0;x3 0;x4 0;x5 0;x6 0;x7 0;");
        // (1 - 0.1^4)^2 and (1 - 0.9^4)^2.
        odds(c, x, 1, 2, 99980001, 100000000);
        odds(c, x, 9, 2, 11826721, 100000000);
    }

    static void p21EachForItself(Check c) {
        HalfPlanks x = Check.told("n2;up1 1;vp1 1;x0 0;x1 0;x0 1;x1 1;");
        odds(c, x, 5, 2, 1, 4);
        HalfPlanks y = Check.told("n2;up1 1;vp1 1;up1 1;vp1 1;x0 0;x1 0;x2 1;x3 1;");
        odds(c, y, 5, 2, 1, 16);
    }

    static void p21NothingIsChanged(Check c) {
        HalfPlanks x = Check.told(HELD);
        x.odds(10, 7, 0);
        c.same("now(1)", x.now(1), 7);
        c.same("now(5)", x.now(5), 0);
    }

    // ---- 22: "WINTER of n DAYS by a SEED (1 .. 999999). BAD."

    /**
     * The lots from seed 1 on are 16807, 282475249, 1622650073, 984943658, 1144108930, 470211272: of
     * these four that is 3, 1, 1, 2, 2, 0.
     */
    private static final String FOUR = "n1;up4 1;vp3 1;up1 1;up1 5;x0 0;x1 0;";

    static void p22TooSmallOrTooLarge(Check c) {
        HalfPlanks x = Check.told(FOUR);
        c.same("winter(-1, 1, 1)", x.winter(-1, 1, 1), BAD);
        c.same("winter(61, 1, 1)", x.winter(61, 1, 1), BAD);
        c.same("winter(1, 0, 1)", x.winter(1, 0, 1), BAD);
        c.same("winter(1, -1, 1)", x.winter(1, -1, 1), BAD);
        c.same("winter(1, 1000000, 1)", x.winter(1, 1000000, 1), BAD);
        c.same("winter(1, 1, 0)", x.winter(1, 1, 0), BAD);
        c.same("winter(1, 1, 37)", x.winter(1, 1, 37), BAD);
        c.same("winter(0, 0, 1)", x.winter(0, 0, 1), BAD);
        c.same("winter(0, 1, 0)", x.winter(0, 1, 0), BAD);
        for (int far : new int[] {Integer.MIN_VALUE, -1000000, 2147483647}) {
            c.same("winter(" + far + ", 1, 1)", x.winter(far, 1, 1), BAD);
            c.same("winter(1, " + far + ", 1)", x.winter(1, far, 1), BAD);
            c.same("winter(1, 1, " + far + ")", x.winter(1, 1, far), BAD);
        }
    }

    static void p22NoDay(Check c) {
        HalfPlanks x = Check.told(FOUR);
        c.same("now(1)", x.now(1), 7);
        c.same("winter(0, 1, 1)", x.winter(0, 1, 1), 0);
        c.same("winter(0, 999999, 36)", x.winter(0, 999999, 36), 0);
    }

    static void p22SixtyDays(Check c) {
        HalfPlanks x = Check.told("n1;up1 1;vp1 1;");
        // Reckoned apart, by a script; it bears 1 behind the sixtieth day too.
        c.same("winter(59, 1, 1)", x.winter(59, 1, 1), 9);
        c.same("winter(60, 1, 1)", x.winter(60, 1, 1), 10);
        c.same("winter(60, 999999, 1)", x.winter(60, 999999, 1), 14);
    }

    static void p22NobodyBearsNothing(Check c) {
        HalfPlanks x = new HalfPlanks();
        c.same("winter(60, 1, 1)", x.winter(60, 1, 1), 0);
        c.same("winter(60, 999999, 1)", x.winter(60, 999999, 1), 0);
    }

    static void p22DayByDay(Check c) {
        HalfPlanks x = Check.told(FOUR);
        // 3 promises, 1 breaks, 1 promises (crossing 3: day 4), 2 promises, 2 breaks, 0 breaks.
        int[] seven = {0, 1, 1, 1, 2, 3, 3};
        int[] four = {0, 1, 1, 1, 2, 3, 4};
        for (int n = 0; n <= 6; n++) {
            c.same("winter(" + n + ", 1, 7)", x.winter(n, 1, 7), seven[n]);
            c.same("winter(" + n + ", 1, 4)", x.winter(n, 1, 4), four[n]);
            c.same("winter(" + n + ", 1, 8)", x.winter(n, 1, 8), 0);
        }
    }

    static void p22LeastAndGreatestSeed(Check c) {
        HalfPlanks x = Check.told(FOUR);
        // 999999 times 16807 leaves 1774597664: person 0 breaks.
        c.same("winter(1, 1, 7)", x.winter(1, 1, 7), 1);
        c.same("winter(1, 999999, 7)", x.winter(1, 999999, 7), 0);
    }

    static void p22PlankByTheLotCutByEight(Check c) {
        // 16807 by 8, cut, is 2100: person 3 promises plank 0 of two, and of three.
        HalfPlanks x = Check.told("n2;up1 1;vp1 1;up1 1;vp2 1;x0 0;x0 1;x1 1;");
        c.same("winter(1, 1, 2)", x.winter(1, 1, 2), 1);
        c.same("winter(1, 1, 3)", x.winter(1, 1, 3), 0);
        HalfPlanks y = Check.told("n3;up1 1;vp1 1;up1 1;vp2 1;x0 0;x0 1;x1 1;x0 2;x1 2;");
        c.same("winter(1, 1, 2)", y.winter(1, 1, 2), 1);
        // From 2 the lot is 33614, by 8 it is 4201: person 2 promises plank 1.
        HalfPlanks z = Check.told("n2;up1 1;vp1 1;vp2 1;up1 1;x0 0;x1 0;x0 1;");
        c.same("winter(1, 2, 2)", z.winter(1, 2, 2), 1);
    }

    static void p22LetterUnderWayIsBroken(Check c) {
        HalfPlanks x = Check.told("n1;up4 1;vp3 1;up1 1;vp9 1;x0 0;x1 0;");
        c.same("winter(1, 1, 13)", x.winter(1, 1, 13), 1);
        x.promises(3, 0);
        c.same("winter(1, 1, 13), broken", x.winter(1, 1, 13), 0);
        c.same("winter(1, 1, 7)", x.winter(1, 1, 7), 1);
    }

    static void p22NothingIsChanged(Check c) {
        HalfPlanks x = Check.told(FOUR);
        x.winter(60, 1, 1);
        c.same("now(0)", x.now(0), 0);
        c.same("now(1)", x.now(1), 7);
        c.same("now(4)", x.now(4), 0);
        c.same("now(5)", x.now(5), 0);
        c.same("winter(1, 1, 7)", x.winter(1, 1, 7), 1);
    }
}
