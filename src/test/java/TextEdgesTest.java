/** Promises 1 to 4 (a new object, type, clear, gorge): one test for each edge that the document names. */
public final class TextEdgesTest {
    private static final int BAD = -1, STATE = -2, FULL = -3;
    private static final int[] FAR = {Integer.MIN_VALUE, -257, -256, 512, 65536 + 'n', Integer.MAX_VALUE};
    private static final String ONE = "up1 1;";
    private static final String EIGHT = ONE.repeat(8);

    public static void main(String[] args) {
        Cases.runAll(TextEdgesTest.class, 1, 4);
    }

    // ---- 1: "As told; no PEOPLE."

    static void p01ThreePlanksAtFirst(Check c) {
        HalfPlanks x = new HalfPlanks();
        c.same("count(0)", x.count(0), 3);
        c.same("plank(2, 0)", x.plank(2, 0), 0);
        c.same("plank(3, 0)", x.plank(3, 0), BAD);
    }

    static void p01NobodyAtFirst(Check c) {
        HalfPlanks x = new HalfPlanks();
        c.same("count(1)", x.count(1), 0);
        c.same("person(0, 0)", x.person(0, 0), BAD);
        c.same("hold(0, 0)", x.hold(0, 0), BAD);
        c.same("promises(0, 0)", x.promises(0, 0), BAD);
        c.same("rate(0, 0)", x.rate(0, 0), HalfPlanks.NO);
    }

    static void p01DayNoughtAtFirst(Check c) {
        c.same("now(0)", new HalfPlanks().now(0), 0);
    }

    static void p01NothingLiesAtFirst(Check c) {
        HalfPlanks x = new HalfPlanks();
        c.same("now(1)", x.now(1), 0);
        c.same("now(2)", x.now(2), 0);
        for (int p = 0; p < 3; p++) {
            c.same("plank(p, 1)", x.plank(p, 1), 0);
            c.same("plank(p, 2)", x.plank(p, 2), 0);
        }
    }

    static void p01NothingWasDoneAtFirst(Check c) {
        HalfPlanks x = new HalfPlanks();
        c.same("now(3)", x.now(3), 0);
        c.same("now(4)", x.now(4), 0);
        c.same("now(5)", x.now(5), 0);
        c.same("undo()", x.undo(), STATE);
    }

    static void p01NothingSeenOrTypedAtFirst(Check c) {
        HalfPlanks x = new HalfPlanks();
        c.same("count(2)", x.count(2), 0);
        c.same("count(3)", x.count(3), 0);
        c.same("forget()", x.forget(), 0);
        c.same("clear()", x.clear(), 0);
    }

    static void p01NoImageAtFirst(Check c) {
        HalfPlanks x = new HalfPlanks();
        c.same("back(0)", x.back(0), STATE);
        c.same("back(1)", x.back(1), STATE);
    }

    static void p01TraceNoughtAtFirst(Check c) {
        c.same("trace()", new HalfPlanks().trace(), 0);
    }

    static void p01ObjectsHaveNothingInCommon(Check c) {
        HalfPlanks one = Check.told("n8;" + EIGHT + "x0 0;");
        HalfPlanks other = new HalfPlanks();
        one.type('n');
        one.sees(1, 1);
        one.rate(0, 0);
        one.keep(0);
        one.days();
        c.same("count(0)", other.count(0), 3);
        c.same("count(1)", other.count(1), 0);
        c.same("count(2)", other.count(2), 0);
        c.same("count(3)", other.count(3), 0);
        c.same("trace()", other.trace(), 0);
        c.same("back(0)", other.back(0), STATE);
        c.same("now(0)", other.now(0), 0);
    }

    // ---- 2: "A letter (0 .. 255) comes to THE TEXT: how many it has. BAD; FULL."

    static void p02LeastLetter(Check c) {
        c.same("type(0)", new HalfPlanks().type(0), 1);
    }

    static void p02GreatestLetter(Check c) {
        c.same("type(255)", new HalfPlanks().type(255), 1);
    }

    static void p02LetterTooSmall(Check c) {
        HalfPlanks x = new HalfPlanks();
        c.same("type(-1)", x.type(-1), BAD);
        c.same("count(3)", x.count(3), 0);
    }

    static void p02LetterTooLarge(Check c) {
        HalfPlanks x = new HalfPlanks();
        c.same("type(256)", x.type(256), BAD);
        c.same("count(3)", x.count(3), 0);
    }

    static void p02FarLettersDoNotWrapAround(Check c) {
        HalfPlanks x = new HalfPlanks();
        for (int far : FAR) {
            c.same("type(" + far + ")", x.type(far), BAD);
        }
        c.same("type(256 + 'n')", x.type(256 + 'n'), BAD);
        c.same("count(3)", x.count(3), 0);
    }

    static void p02AnyLetterMayBeTyped(Check c) {
        HalfPlanks x = new HalfPlanks();
        for (int letter = 0; letter <= 255; letter++) {
            c.same("type(" + letter + ")", x.type(letter), 1);
            x.clear();
        }
    }

    static void p02CountsUpToFull(Check c) {
        HalfPlanks x = new HalfPlanks();
        for (int i = 1; i <= 120; i++) {
            c.same("type(' ')", x.type(' '), i);
        }
        c.same("count(3)", x.count(3), 120);
    }

    static void p02FullText(Check c) {
        HalfPlanks x = new HalfPlanks();
        Check.type(x, " ".repeat(117) + "n1;");
        c.same("type(';')", x.type(';'), FULL);
        c.same("type('9')", x.type('9'), FULL);
        c.same("count(3)", x.count(3), 120);
        c.same("gorge()", x.gorge(), 1);
        c.same("count(0)", x.count(0), 1);
    }

    static void p02BadAheadOfFull(Check c) {
        HalfPlanks x = new HalfPlanks();
        Check.type(x, " ".repeat(120));
        c.same("type(256)", x.type(256), BAD);
        c.same("type(-1)", x.type(-1), BAD);
        c.same("type(255)", x.type(255), FULL);
        c.same("type(0)", x.type(0), FULL);
    }

    static void p02RoomAgainBehindClear(Check c) {
        HalfPlanks x = new HalfPlanks();
        Check.type(x, " ".repeat(120));
        x.clear();
        c.same("type(' ')", x.type(' '), 1);
    }

    static void p02RoomAgainBehindGorge(Check c) {
        HalfPlanks x = new HalfPlanks();
        Check.type(x, " ".repeat(120));
        x.gorge();
        c.same("type(' ')", x.type(' '), 1);
    }

    static void p02StillFullBehindAFault(Check c) {
        HalfPlanks x = new HalfPlanks();
        Check.type(x, " ".repeat(119) + "%");
        c.same("gorge()", x.gorge(), -10 - 119);
        c.same("type(' ')", x.type(' '), FULL);
    }

    // ---- 3: "THE TEXT is empty: how many letters it had."

    static void p03EmptyText(Check c) {
        c.same("clear()", new HalfPlanks().clear(), 0);
    }

    static void p03FullText(Check c) {
        HalfPlanks x = new HalfPlanks();
        Check.type(x, "n".repeat(121));
        c.same("clear()", x.clear(), 120);
        c.same("clear()", x.clear(), 0);
    }

    static void p03LettersAreGone(Check c) {
        HalfPlanks x = new HalfPlanks();
        Check.type(x, "n2;up1 1;");
        c.same("clear()", x.clear(), 9);
        c.same("count(3)", x.count(3), 0);
        Check.type(x, "n5;");
        c.same("gorge()", x.gorge(), 1);
        c.same("count(0)", x.count(0), 5);
        c.same("count(1)", x.count(1), 0);
    }

    static void p03BehindGorgeThereIsNothing(Check c) {
        c.same("clear()", Check.told("n2;").clear(), 0);
    }

    static void p03NothingButTheTextIsCleared(Check c) {
        HalfPlanks x = Check.told("n2;up1 1;x0 1;");
        x.sees(1, 0);
        x.keep(1);
        x.days();
        x.type('n');
        c.same("clear()", x.clear(), 1);
        c.same("count(0)", x.count(0), 2);
        c.same("count(1)", x.count(1), 1);
        c.same("count(2)", x.count(2), 1);
        c.same("person(0, 4)", x.person(0, 4), 2);
        c.same("now(5)", x.now(5), 1);
        c.same("back(1)", x.back(1), 0);
    }

    // ---- 4: "THE TEXT tells all anew, and is empty then: how many ITEMS. -10 less FAULT: nothing changes."

    private static void reads(Check c, String text, int answer) {
        HalfPlanks x = new HalfPlanks();
        Check.type(x, text);
        c.same("gorge() of '" + text + "'", x.gorge(), answer);
        c.same("letters behind '" + text + "'", x.count(3), answer < 0 ? text.length() : 0);
    }

    private static void fault(Check c, String text, int place) {
        reads(c, text, -10 - place);
    }

    static void p04EmptyText(Check c) {
        HalfPlanks x = Check.told("n8;up1 1;");
        c.same("gorge()", x.gorge(), 0);
        c.same("count(0)", x.count(0), 3);
        c.same("count(1)", x.count(1), 0);
    }

    static void p04BlanksAlone(Check c) {
        HalfPlanks x = Check.told("n8;up1 1;");
        Check.type(x, "    ");
        c.same("gorge()", x.gorge(), 0);
        c.same("count(3)", x.count(3), 0);
        c.same("count(0)", x.count(0), 3);
    }

    static void p04TextOf120Letters(Check c) {
        StringBuilder text = new StringBuilder("n8;").append(EIGHT);
        for (int i = 0; i < 13; i++) {
            text.append("x").append(i % 8).append(" ").append(i / 8).append(";");
        }
        String full = text + "    ";
        c.same("letters", full.length(), 120);
        reads(c, full, 22);
    }

    static void p04FullTextEndsTooEarly(Check c) {
        fault(c, " ".repeat(118) + "n1", 120);
        fault(c, " ".repeat(119) + "n", 120);
    }

    static void p04FewestPlanks(Check c) {
        HalfPlanks x = Check.told("n1;");
        c.same("count(0)", x.count(0), 1);
        c.same("plank(0, 0)", x.plank(0, 0), 0);
        c.same("plank(1, 0)", x.plank(1, 0), BAD);
    }

    static void p04MostPlanks(Check c) {
        HalfPlanks x = Check.told("n8;");
        c.same("count(0)", x.count(0), 8);
        c.same("plank(7, 0)", x.plank(7, 0), 0);
        c.same("plank(8, 0)", x.plank(8, 0), BAD);
    }

    static void p04NoPlanks(Check c) {
        fault(c, "n0;", 1);
    }

    static void p04TooManyPlanks(Check c) {
        fault(c, "n9;", 1);
        fault(c, "n99;", 1);
    }

    static void p04PlanksNotToldAreThree(Check c) {
        HalfPlanks x = Check.told("n8;");
        Check.type(x, ONE);
        c.same("gorge()", x.gorge(), 1);
        c.same("count(0)", x.count(0), 3);
    }

    static void p04PlanksBehindPlanks(Check c) {
        fault(c, "n1;n1;", 3);
        fault(c, "n1; n2", 4);
    }

    static void p04PlanksBehindAPerson(Check c) {
        fault(c, ONE + "n1;", 6);
        fault(c, "n1;" + ONE + "n1;", 9);
    }

    static void p04PlanksBehindAPromise(Check c) {
        fault(c, ONE + "x0 0;n1;", 11);
    }

    static void p04EightPeople(Check c) {
        HalfPlanks x = Check.told(EIGHT);
        c.same("count(1)", x.count(1), 8);
        c.same("person(7, 1)", x.person(7, 1), 1);
        c.same("person(8, 1)", x.person(8, 1), BAD);
    }

    static void p04NinthPerson(Check c) {
        fault(c, EIGHT + "up1 1;", 48);
        fault(c, EIGHT + "vp1 1;", 48);
        fault(c, "n1;" + EIGHT + "x7 0; v", 57);
    }

    static void p04LeastWord(Check c) {
        c.same("person(0, 2)", Check.told("up1 2;").person(0, 2), 1);
    }

    static void p04GreatestWord(Check c) {
        c.same("person(0, 2)", Check.told("up9 2;").person(0, 2), 9);
    }

    static void p04WordTooSmall(Check c) {
        fault(c, "up0 1;", 2);
        fault(c, "v l 0 1;", 4);
    }

    static void p04WordTooLarge(Check c) {
        fault(c, "up10 1;", 2);
        fault(c, "v l 99 1;", 4);
    }

    static void p04LeastSlow(Check c) {
        c.same("person(0, 3)", Check.told("up2 1;").person(0, 3), 1);
    }

    static void p04GreatestSlow(Check c) {
        c.same("person(0, 3)", Check.told("up2 5;").person(0, 3), 5);
    }

    static void p04SlowTooSmall(Check c) {
        fault(c, "up1 0;", 4);
    }

    static void p04SlowTooLarge(Check c) {
        fault(c, "up1 6;", 4);
        fault(c, "up1 10;", 4);
    }

    static void p04EachBankByItsLetter(Check c) {
        HalfPlanks x = Check.told("up1 1;vp1 1;");
        c.same("person(0, 0)", x.person(0, 0), 0);
        c.same("person(1, 0)", x.person(1, 0), 1);
    }

    static void p04EachKindByItsLetter(Check c) {
        HalfPlanks x = Check.told("up1 1;uc1 1;us1 1;um1 1;ul1 1;");
        for (int a = 0; a < 5; a++) {
            c.same("person(" + a + ", 1)", x.person(a, 1), a + 1);
        }
    }

    static void p04NoOtherLetterIsAKind(Check c) {
        for (int letter = 0; letter <= 255; letter++) {
            if ("pcsml ".indexOf(letter) < 0) {
                fault(c, "u" + (char) letter + "1 1;", 1);
            }
        }
    }

    static void p04NoOtherLetterBeginsAnItem(Check c) {
        for (int letter = 0; letter <= 255; letter++) {
            boolean begins = "nuvx".indexOf(letter) >= 0;
            reads(c, "" + (char) letter, letter == ' ' ? 0 : begins ? -11 : -10);
        }
    }

    static void p04NoOtherLetterBehindAnItem(Check c) {
        for (int letter = 0; letter <= 255; letter++) {
            boolean begins = "uvx".indexOf(letter) >= 0;
            reads(c, "n1;" + (char) letter, letter == ' ' ? 1 : begins ? -14 : -13);
        }
    }

    static void p04NoOtherLetterBetweenTokens(Check c) {
        for (int letter = 0; letter <= 255; letter++) {
            if (letter != ' ' && !Character.isDigit(letter)) {
                fault(c, "up1" + (char) letter + "1;", 3);
            }
        }
    }

    static void p04NoOtherLetterEndsAnItem(Check c) {
        for (int letter = 0; letter <= 255; letter++) {
            if (letter != ';' && letter != ' ' && !Character.isDigit(letter)) {
                fault(c, "n1" + (char) letter, 2);
            }
        }
    }

    static void p04BlanksMayStandBetweenAllTokens(Check c) {
        reads(c, "  n  2  ;  u  p  3  1  ;  v  c  9  2  ;  x  0  1  ;  ", 4);
    }

    static void p04NoBlankIsWantedButBetweenNumbers(Check c) {
        reads(c, "n2;up3 1;vc9 2;x0 1;", 4);
    }

    static void p04BlankPartsANumber(Check c) {
        fault(c, "n1 2;", 3);
        fault(c, "up1 1 1;", 6);
    }

    static void p04ItemsAreEndedEach(Check c) {
        fault(c, "n1 up1 1;", 3);
        fault(c, "up1 1 vp1 1;", 6);
        fault(c, ONE + "x0 0 x0 1;", 11);
    }

    static void p04NoEmptyItem(Check c) {
        fault(c, ";", 0);
        fault(c, "n1;;", 3);
        fault(c, "n1; ;", 4);
    }

    static void p04NothingMissingInAnItem(Check c) {
        fault(c, "n;", 1);
        fault(c, "u;", 1);
        fault(c, "up;", 2);
        fault(c, "up1;", 3);
        fault(c, ONE + "x;", 7);
        fault(c, ONE + "x0;", 8);
    }

    static void p04NothingMoreInAnItem(Check c) {
        fault(c, "n1p;", 2);
        fault(c, "up1 1 1;", 6);
        fault(c, ONE + "x0 0 0;", 11);
    }

    static void p04LeastPersonAndPlankPromised(Check c) {
        c.same("person(0, 4)", Check.told("n8;" + EIGHT + "x0 0;").person(0, 4), 1);
    }

    static void p04LastPersonAndPlankPromised(Check c) {
        c.same("person(7, 4)", Check.told("n8;" + EIGHT + "x7 7;").person(7, 4), 128);
    }

    static void p04PromiseOfNobody(Check c) {
        fault(c, "x0 0;", 1);
        fault(c, "n3;x0 0;", 4);
    }

    static void p04PromiseOfOneTooMany(Check c) {
        fault(c, ONE + "x1 0;", 7);
        fault(c, EIGHT + "x8 0;", 49);
        fault(c, EIGHT + "x99 0;", 49);
    }

    static void p04PromiseOfOneToldBehindIt(Check c) {
        fault(c, ONE + "x1 0;vp1 1;", 7);
    }

    static void p04PromiseForOnePlankTooMany(Check c) {
        fault(c, ONE + "x0 3;", 9);
        fault(c, "n1;" + ONE + "x0 1;", 12);
        fault(c, "n8;" + ONE + "x0 8;", 12);
    }

    static void p04PromiseToldTwice(Check c) {
        fault(c, ONE + "x0 2;x0 2;", 14);
        fault(c, ONE + "x0 0;x0 1;x0 0;", 19);
    }

    static void p04PromisesOfOnePersonOrForOnePlank(Check c) {
        reads(c, ONE + "vp1 1;x0 0;x0 1;x1 1;x1 0;", 6);
    }

    static void p04PromisesToldEarlierDoNotCount(Check c) {
        HalfPlanks x = Check.told(ONE + "x0 0;");
        Check.type(x, ONE + "x0 0;");
        c.same("gorge()", x.gorge(), 2);
        c.same("person(0, 4)", x.person(0, 4), 1);
    }

    static void p04NumberAbove99(Check c) {
        fault(c, "up100 1;", 2);
        fault(c, "up1 100;", 4);
        fault(c, ONE + "x100 0;", 7);
    }

    static void p04LongNumberDoesNotWrapAround(Check c) {
        fault(c, "n4294967297;", 1);
        fault(c, "n18446744073709551617;", 1);
        fault(c, "up1 4294967297;", 4);
        fault(c, "n" + "1".repeat(118) + ";", 1);
    }

    static void p04NoughtAheadOfOthers(Check c) {
        fault(c, "n01;", 1);
        fault(c, "n00;", 1);
        fault(c, "up01 1;", 2);
        fault(c, "up1 05;", 4);
        fault(c, ONE + "x00 0;", 7);
        fault(c, ONE + "x0 00;", 9);
    }

    static void p04NoughtAloneIsANumber(Check c) {
        reads(c, ONE + "x0 0;", 2);
    }

    static void p04EndsTooEarlyBehindEachToken(Check c) {
        String whole = "n2;u p 3 1 ;vc9 2;x 0 1;";
        for (int length = 0; length < whole.length(); length++) {
            String part = whole.substring(0, length);
            String bare = part.trim();
            boolean ended = bare.isEmpty() || bare.endsWith(";");
            int items = bare.replaceAll("[^;]", "").length();
            reads(c, part, ended ? items : -10 - length);
        }
    }

    static void p04EndsTooEarlyBehindBlanks(Check c) {
        fault(c, "n1   ", 5);
        fault(c, "u   ", 4);
    }

    static void p04FirstFaultOfSeveral(Check c) {
        fault(c, "n9;%", 1);
        fault(c, "n%;n9;", 1);
        fault(c, "up0 9;", 2);
        fault(c, "up1 9;x9 9;", 4);
        fault(c, ONE + "x1 9;", 7);
    }

    static void p04FaultLeavesEverything(Check c) {
        HalfPlanks x = Check.told("n2;up4 1;vp3 2;x0 0;x1 0;");
        x.promises(0, 1);
        x.days();
        x.sees(5, 1);
        x.keep(1);
        Check.type(x, "n1;um1 1;x0 0;x0 1;");
        c.same("gorge()", x.gorge(), -10 - 17);
        c.same("count(0)", x.count(0), 2);
        c.same("count(1)", x.count(1), 2);
        c.same("count(2)", x.count(2), 1);
        c.same("count(3)", x.count(3), 19);
        c.same("person(0, 1)", x.person(0, 1), 1);
        c.same("person(0, 2)", x.person(0, 2), 4);
        c.same("person(0, 4)", x.person(0, 4), 3);
        c.same("plank(0, 0)", x.plank(0, 0), 7);
        c.same("now(0)", x.now(0), 1);
        c.same("now(5)", x.now(5), 2);
        c.same("back(1)", x.back(1), 1);
    }

    static void p04FaultCanBeReadAgain(Check c) {
        HalfPlanks x = new HalfPlanks();
        Check.type(x, "n2");
        c.same("gorge()", x.gorge(), -12);
        c.same("gorge()", x.gorge(), -12);
        x.type(';');
        c.same("gorge()", x.gorge(), 1);
        c.same("count(0)", x.count(0), 2);
    }

    static void p04ReadAnewIsDayNought(Check c) {
        HalfPlanks x = Check.told(ONE);
        Check.days(x, 3);
        x.gorge();
        c.same("now(0)", x.now(0), 0);
    }

    static void p04ReadAnewNothingIsSeen(Check c) {
        HalfPlanks x = Check.told(ONE);
        x.sees(36, 1);
        Check.type(x, ONE);
        x.gorge();
        c.same("count(2)", x.count(2), 0);
        c.same("words(0, 0)", x.words(0, 0), 9);
        c.same("sees(1, 0)", x.sees(1, 0), 1);
    }

    static void p04ReadAnewImagesAreGone(Check c) {
        HalfPlanks x = Check.told(ONE);
        x.keep(0);
        x.keep(1);
        x.gorge();
        c.same("back(0)", x.back(0), STATE);
        c.same("back(1)", x.back(1), STATE);
    }

    static void p04ReadAnewPromisesAreAsTold(Check c) {
        HalfPlanks x = Check.told("up1 2;vp1 2;x0 0;x1 1;");
        x.promises(0, 1);
        x.promises(1, 2);
        x.breaks(0, 0);
        Check.type(x, "up1 2;vp1 2;x0 0;");
        c.same("gorge()", x.gorge(), 3);
        c.same("person(0, 4)", x.person(0, 4), 1);
        c.same("person(0, 5)", x.person(0, 5), 0);
        c.same("person(1, 4)", x.person(1, 4), 0);
        c.same("person(1, 5)", x.person(1, 5), 0);
        c.same("now(4)", x.now(4), 0);
        c.same("days()", x.days(), 0);
        c.same("days()", x.days(), 0);
    }

    static void p04ReadAnewNothingCrossedNothingToUndo(Check c) {
        HalfPlanks x = Check.told("n1;up1 1;vp1 1;x0 0;x1 0;");
        x.crosses(2);
        x.days();
        c.same("gorge()", x.gorge(), 0);
        c.same("now(3)", x.now(3), 0);
        c.same("now(5)", x.now(5), 0);
        c.same("undo()", x.undo(), STATE);
    }

    static void p04ReadAnewFewerPlanksAndPeople(Check c) {
        HalfPlanks x = Check.told("n8;" + EIGHT + "x7 7;x7 0;");
        Check.type(x, "n1;" + ONE);
        c.same("gorge()", x.gorge(), 2);
        c.same("person(1, 0)", x.person(1, 0), BAD);
        c.same("plank(1, 0)", x.plank(1, 0), BAD);
        c.same("plank(0, 1)", x.plank(0, 1), 0);
        c.same("enough(1)", x.enough(1), HalfPlanks.NONE);
    }

    static void p04ReadAnewKindsAreAsTold(Check c) {
        HalfPlanks x = Check.told("n1;us1 1;ul9 1;x0 0;");
        c.same("hold(1, 0)", x.hold(1, 0), 0);
        Check.type(x, "n1;up1 1;ul9 1;x0 0;");
        c.same("gorge()", x.gorge(), 4);
        c.same("hold(1, 0)", x.hold(1, 0), 18);
        Check.type(x, "n1;ul9 1;us1 1;x1 0;");
        c.same("gorge()", x.gorge(), 4);
        c.same("hold(0, 0)", x.hold(0, 0), 0);
    }

    static void p04ReadAnewTheTraceStays(Check c) {
        HalfPlanks x = Check.told(ONE);
        x.rate(2, 0);
        x.gorge();
        c.same("trace()", x.trace(), 111);
    }
}
