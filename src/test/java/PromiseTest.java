/** Each promise of the document by its number: ordinary inputs, the edges it names, wrong inputs. */
public final class PromiseTest {
    private static final int BAD = -1, STATE = -2, FULL = -3, NONE = -9, NO = -1000000;
    private static final int[] FAR = {Integer.MIN_VALUE, -1000, 1000, Integer.MAX_VALUE};

    private static final Check CHECK = new Check();

    private static void due(String call, long got, long due) {
        CHECK.same(call, got, due);
    }

    /** Held by a sworn one and a plain one, and by a merchant and a liar. */
    private static HalfPlanks mixed() {
        return Check.told("n2;us4 2;vl3 1;vp2 1;um3 5;x0 0;x2 0;x3 1;x1 1;x1 0;");
    }

    /** One plank, two liars who came, and a sworn one who did not. */
    private static HalfPlanks liars() {
        return Check.told("n1;ul9 1;vl9 1;us1 2;x0 0;x1 0;");
    }

    public static void main(String[] args) {
        p01NewObject();
        p02Type();
        p03Clear();
        p04GorgeFaults();
        p04GorgeAnew();
        p05Person();
        p06Plank();
        p07Hold();
        p08Now();
        p09Promises();
        p10Breaks();
        p11Days();
        p12Crosses();
        p13Undo();
        p14When();
        p15Fewest();
        p16Soon();
        p17Pair();
        p18Enough();
        p19Friends();
        p20ByTurns();
        p21Odds();
        p22Winter();
        p23And24SeesForget();
        p25Words();
        p26Next();
        p27And31RateTrace();
        p28And29Images();
        p30Count();
        CHECK.end();
    }

    private static void p01NewObject() {
        HalfPlanks x = new HalfPlanks();
        due("1: planks", x.count(0), 3);
        due("1: people", x.count(1), 0);
        due("1: seen", x.count(2), 0);
        due("1: letters", x.count(3), 0);
        for (int what = 0; what <= 5; what++) {
            due("1: now(" + what + ")", x.now(what), 0);
        }
        due("1: trace", x.trace(), 0);
        due("1: person", x.person(0, 0), BAD);
        due("1: plank 2", x.plank(2, 0), 0);
        due("1: plank 3", x.plank(3, 0), BAD);
        due("1: undo", x.undo(), STATE);
        due("1: image 0", x.back(0), STATE);
        due("1: image 1", x.back(1), STATE);
        due("1: when", x.when(1), NONE);
        due("1: byTurns", x.byTurns(3), 0);
        due("1: odds", x.odds(0, 1, 1), 1);
        due("1: winter", x.winter(60, 7, 1), 0);
    }

    private static void p02Type() {
        HalfPlanks x = new HalfPlanks();
        due("2: below", x.type(-1), BAD);
        due("2: above", x.type(256), BAD);
        for (int far : FAR) {
            due("2: far", x.type(far), BAD);
        }
        due("2: least", x.type(0), 1);
        due("2: greatest", x.type(255), 2);
        for (int i = 3; i <= 120; i++) {
            due("2: letter " + i, x.type(' '), i);
        }
        due("2: full", x.type(' '), FULL);
        due("2: bad ahead of full", x.type(256), BAD);
        due("2: nothing changed", x.count(3), 120);
    }

    private static void p03Clear() {
        HalfPlanks x = new HalfPlanks();
        due("3: empty", x.clear(), 0);
        Check.type(x, "n1;");
        due("3: three", x.clear(), 3);
        due("3: again", x.clear(), 0);
        due("3: letters", x.count(3), 0);
        due("3: nothing is told", x.gorge(), 0);
        due("3: planks", x.count(0), 3);
        due("3: type again", x.type('n'), 1);
    }

    private static void reads(String text, int answer) {
        HalfPlanks x = mixed();
        x.promises(0, 1);
        Check.type(x, text);
        due("4: gorge() of '" + text + "'", x.gorge(), answer);
        if (answer < 0) {
            due("4: the text stays", x.count(3), text.length());
            due("4: people stay", x.count(1), 4);
            due("4: planks stay", x.count(0), 2);
            due("4: promises stay", x.now(4), 1);
            due("4: undo stays", x.now(5), 1);
        } else {
            due("4: the text is empty", x.count(3), 0);
            due("4: no undo", x.now(5), 0);
        }
    }

    private static void p04GorgeFaults() {
        String person = "up1 1;";
        reads("", 0);
        reads("   ", 0);
        reads("n8;", 1);
        reads("n1;", 1);
        reads(" n 2 ;u p 3 1; v c 9 2 ;x 0 1;", 4);
        reads("up1 1;x0 0;vp1 1;x1 2;", 4);
        reads("n4;up1 1;x0 3;", 3);
        reads(person.repeat(8), 8);
        reads("n0;", -11);
        reads("n9;", -11);
        reads("n10;", -11);
        reads("n100;", -11);
        reads("n01;", -11);
        reads("n00;", -11);
        reads("n99999999999999999999;", -11);
        reads("n4294967297;", -11);
        reads("n;", -11);
        reads("n", -11);
        reads("n1", -12);
        reads("n1  ", -14);
        reads("n1 1;", -13);
        reads("n1;n1;", -13);
        reads("up1 1;n1;", -16);
        reads(";", -10);
        reads("5", -10);
        reads("p", -10);
        reads(" a", -11);
        reads("N1;", -10);
        reads("n\t1;", -11);
        reads("n1;" + (char) 233, -13);
        reads("u1 1;", -11);
        reads("un1 1;", -11);
        reads("u", -11);
        reads("up", -12);
        reads("up0 1;", -12);
        reads("up10 1;", -12);
        reads("up01 1;", -12);
        reads("up1 0;", -14);
        reads("up1 6;", -14);
        reads("up1;", -13);
        reads("up11;", -12);
        reads("up1 1", -15);
        reads("up1 1 1;", -16);
        reads("up1%1;", -13);
        reads(person.repeat(8) + "up1 1;", -58);
        reads(person.repeat(8) + " vp1 1;", -59);
        reads("x0 0;", -11);
        reads("up1 1;x1 0;", -17);
        reads("up1 1;x0 3;", -19);
        reads("n2;up1 1;x0 2;", -22);
        reads("up1 1;x0 2;x0 2;", -24);
        reads("up1 1;x0 2;x0 1;x0 2", -29);
        reads("up1 1;x0;", -18);
        reads("n9;%", -11);
        reads("n3;%n9;", -13);
    }

    private static void p04GorgeAnew() {
        HalfPlanks x = mixed();
        x.rate(1, 0);
        x.crosses(1);
        x.promises(0, 1);
        x.days();
        x.sees(3, 1);
        x.keep(0);
        x.keep(1);
        Check.type(x, "um2 3;x0 1;");
        due("4: items", x.gorge(), 2);
        due("4: planks are three again", x.count(0), 3);
        due("4: people", x.count(1), 1);
        due("4: seen", x.count(2), 0);
        for (int what = 0; what <= 5; what++) {
            due("4: now(" + what + ")", x.now(what), 0);
        }
        due("4: image 0", x.back(0), STATE);
        due("4: image 1", x.back(1), STATE);
        due("4: undo", x.undo(), STATE);
        due("4: came", x.person(0, 4), 2);
        due("4: under way", x.person(0, 5), 0);
        due("4: the trace stays", x.trace(), 11);
        Check.type(x, "");
        due("4: nothing told", x.gorge(), 0);
        due("4: nobody", x.count(1), 0);
        due("4: nobody stands", x.plank(1, 1), 0);
    }

    private static void person(HalfPlanks x, int a, int... all) {
        for (int what = 0; what < all.length; what++) {
            due("5: person(" + a + ", " + what + ")", x.person(a, what), all[what]);
        }
    }

    private static void p05Person() {
        HalfPlanks x = mixed();
        person(x, 0, 0, 3, 4, 2, 1, 0, 1, 6);
        person(x, 1, 1, 5, 3, 1, 3, 0, 2, 6);
        person(x, 2, 1, 1, 2, 1, 1, 0, 1, 6);
        person(x, 3, 0, 4, 3, 5, 2, 0, 2, 6);
        x.promises(2, 1);
        person(x, 2, 1, 1, 2, 1, 1, 2, 1, 6);
        x.days();
        person(x, 2, 1, 1, 2, 1, 3, 0, 1, 6);
        person(x, 1, 1, 5, 3, 1, 3, 0, 0, 0);
        person(Check.told("uc9 5;"), 0, 0, 2, 9, 5, 0, 0, 0, 0);
        HalfPlanks spare = Check.told("n1;up5 1;vp4 1;vp2 1;x0 0;x1 0;x2 0;");
        person(spare, 0, 0, 1, 5, 1, 1, 0, 1, 9);
        person(spare, 1, 1, 1, 4, 1, 1, 0, 0, 2);
        person(spare, 2, 1, 1, 2, 1, 1, 0, 0, 0);
        // Without the sworn one the liars hold 36: no less.
        HalfPlanks sworn = Check.told("n1;us1 1;ul9 1;vl9 1;vp1 1;x0 0;x1 0;x2 0;x3 0;");
        due("5: bridge", sworn.now(1), 2);
        person(sworn, 0, 0, 3, 1, 1, 1, 0, 0, 0);
        for (int wrong : new int[] {-1, 4, 8, 64}) {
            due("5: no such one", x.person(wrong, 0), BAD);
        }
        due("5: below", x.person(0, -1), BAD);
        due("5: above", x.person(0, 8), BAD);
        for (int far : FAR) {
            due("5: far", x.person(far, 0), BAD);
            due("5: far", x.person(0, far), BAD);
        }
    }

    private static void p06Plank() {
        HalfPlanks x = mixed();
        due("6: bears", x.plank(0, 0), 6);
        due("6: a sworn one stands", x.plank(0, 1), 1);
        due("6: for either, a liar does not", x.plank(0, 2), 5);
        due("6: bears", x.plank(1, 0), 12);
        due("6: merchant", x.plank(1, 1), 8);
        due("6: liar", x.plank(1, 2), 2);
        HalfPlanks alone = Check.told("n1;us9 1;x0 0;");
        due("6: one is not two", alone.plank(0, 0), 0);
        due("6: both", alone.plank(0, 1) + alone.plank(0, 2), 2);
        due("6: two sworn ones of a bank", Check.told("n1;us9 1;us8 1;x0 0;x1 0;").plank(0, 0), 17);
        due("6: three sworn ones", Check.told("n1;us5 1;us8 1;vs7 1;x0 0;x1 0;x2 0;").plank(0, 0), 15);
        due("6: two plain ones of a bank", Check.told("n1;up9 1;up8 1;x0 0;x1 0;").plank(0, 0), 0);
        due("6: sworn with its own bank", Check.told("n1;us9 1;up8 1;x0 0;x1 0;").plank(0, 0), 17);
        due("6: the best two", Check.told("n1;us2 1;up8 1;vp9 1;vc9 1;x0 0;x1 0;x2 0;x3 0;").plank(0, 0), 17);
        due("6: under way does not stand", standingUnderWay(), 0);
        due("6: no such", x.plank(2, 0), BAD);
        due("6: no such", x.plank(-1, 0), BAD);
        due("6: below", x.plank(0, -1), BAD);
        due("6: above", x.plank(0, 3), BAD);
        for (int far : FAR) {
            due("6: far", x.plank(far, 0), BAD);
            due("6: far", x.plank(0, far), BAD);
        }
    }

    private static int standingUnderWay() {
        HalfPlanks x = Check.told("n1;up1 2;");
        x.promises(0, 0);
        return x.plank(0, 1);
    }

    private static void p07Hold() {
        HalfPlanks x = Check.told("n3;up7 1;uc9 1;uc2 1;us8 1;um6 1;ul5 1;x3 2;");
        int[] even = {7, 3, 2, 8, 6, 10};
        int[] uneven = {7, 3, 2, 8, 12, 10};
        int[] sworn = {7, 3, 2, 8, 6, 0};
        for (int a = 0; a < 6; a++) {
            due("7: hold(" + a + ", 0)", x.hold(a, 0), even[a]);
            due("7: hold(" + a + ", 1)", x.hold(a, 1), uneven[a]);
            due("7: hold(" + a + ", 2)", x.hold(a, 2), sworn[a]);
        }
        x.promises(3, 0);
        due("7: a sworn one under way", x.hold(5, 0), 10);
        x.days();
        due("7: it came", x.hold(5, 0), 0);
        x.breaks(3, 0);
        due("7: broken", x.hold(5, 0), 10);
        due("7: no such one", x.hold(6, 0), BAD);
        due("7: no such plank", x.hold(0, 3), BAD);
        for (int far : FAR) {
            due("7: far", x.hold(far, 0), BAD);
            due("7: far", x.hold(0, far), BAD);
        }
    }

    private static void now(HalfPlanks x, int... all) {
        for (int what = 0; what < all.length; what++) {
            due("8: now(" + what + ")", x.now(what), all[what]);
        }
    }

    private static void p08Now() {
        HalfPlanks x = mixed();
        now(x, 0, 6, 3, 0, 0, 0);
        x.promises(2, 1);
        x.promises(0, 1);
        now(x, 0, 6, 3, 0, 2, 2);
        x.crosses(6);
        x.days();
        now(x, 1, 6, 3, 1, 1, 4);
        x.breaks(2, 0);
        now(x, 1, 0, 2, 1, 1, 5);
        due("8: below", x.now(-1), BAD);
        due("8: above", x.now(6), BAD);
        for (int far : FAR) {
            due("8: far", x.now(far), BAD);
        }
    }

    private static void p09Promises() {
        HalfPlanks x = Check.told("n2;up1 3;up1 1;vp1 2;vs1 5;x3 1;");
        due("9: slow", x.promises(0, 0), 3);
        due("9: of the same bank", x.promises(1, 0), 1);
        due("9: crosses", x.promises(2, 0), 3);
        due("9: the first is as it was", x.person(0, 5), 1);
        due("9: a sworn one crosses by its bank", x.promises(3, 0), 6);
        due("9: one that came does not cross", x.promises(0, 1), 3);
        x.days();
        due("9: came", x.promises(1, 0), STATE);
        due("9: under way", x.promises(0, 0), STATE);
        x.breaks(0, 1);
        due("9: a broken one does not cross", x.promises(2, 1), 3);
        due("9: counted from the day", x.promises(0, 1), 5);
        int before = x.now(5);
        due("9: no such one", x.promises(4, 0), BAD);
        due("9: no such plank", x.promises(0, 2), BAD);
        for (int far : FAR) {
            due("9: far", x.promises(far, 0), BAD);
            due("9: far", x.promises(0, far), BAD);
        }
        due("9: the refused are not known", x.now(5), before);
    }

    private static void p10Breaks() {
        HalfPlanks x = Check.told("n1;up5 1;vp4 1;vp2 1;x0 0;x1 0;x2 0;");
        due("10: what it bears then", x.breaks(1, 0), 7);
        due("10: it is none", x.breaks(1, 0), STATE);
        x.promises(1, 0);
        due("10: under way", x.breaks(1, 0), 7);
        due("10: nothing comes", x.days(), 0);
        due("10: the last of a bank", x.breaks(2, 0), 0);
        HalfPlanks sworn = Check.told("n1;us1 1;ul9 1;vl9 1;x0 0;x1 0;x2 0;");
        due("10: liars hold again", sworn.breaks(0, 0), 36);
        due("10: no such one", x.breaks(3, 0), BAD);
        due("10: no such plank", x.breaks(0, 1), BAD);
        for (int far : FAR) {
            due("10: far", x.breaks(far, 0), BAD);
            due("10: far", x.breaks(0, far), BAD);
        }
    }

    private static void p11Days() {
        HalfPlanks x = Check.told("n2;up1 1;vp1 2;");
        x.promises(0, 0);
        x.promises(0, 1);
        x.promises(1, 1);
        due("11: two come", x.days(), 2);
        due("11: the crossed one not yet", x.days(), 0);
        due("11: now it does", x.days(), 1);
        due("11: it lies", x.now(2), 2);
        due("11: none", x.days(), 0);
        // More calls than an object is promised for, to get to the last day.
        for (int day = 5; day <= 999; day++) {
            x.days();
        }
        due("11: the last day", x.now(0), 999);
        due("11: none behind it", x.days(), STATE);
        due("11: nothing changed", x.now(0), 999);
    }

    private static void p12Crosses() {
        HalfPlanks x = mixed();
        due("12: below", x.crosses(0), BAD);
        due("12: above", x.crosses(37), BAD);
        for (int far : FAR) {
            due("12: far", x.crosses(far), BAD);
        }
        due("12: too much", x.crosses(7), STATE);
        due("12: just so much", x.crosses(6), 1);
        due("12: less", x.crosses(1), 2);
        due("12: 36", liars().crosses(36), 1);
        // More calls than an object is promised for.
        for (int i = 3; i <= 999; i++) {
            x.crosses(1);
        }
        due("12: often", x.now(3), 999);
        due("12: no more", x.crosses(1), STATE);
    }

    private static void p13Undo() {
        HalfPlanks x = mixed();
        x.promises(2, 1);
        x.days();
        x.crosses(2);
        x.breaks(1, 1);
        due("13: breaks", x.undo(), 3);
        due("13: it stands again", x.person(1, 4), 3);
        due("13: crosses", x.undo(), 2);
        due("13: as often as before", x.now(3), 0);
        due("13: days", x.undo(), 1);
        due("13: the day", x.now(0), 0);
        due("13: under way again", x.person(2, 5), 2);
        due("13: it comes again", x.days(), 1);
        due("13: undone again", x.undo(), 1);
        due("13: promises", x.undo(), 0);
        due("13: none", x.person(2, 5), 0);
        due("13: nothing left", x.undo(), STATE);
        for (int i = 0; i < 12; i++) {
            x.days();
        }
        due("13: ten are known", x.now(5), 10);
        for (int left = 9; left >= 0; left--) {
            due("13: undo", x.undo(), left);
        }
        due("13: two are lost", x.now(0), 2);
        due("13: none", x.undo(), STATE);
        x.sees(1, 1);
        x.keep(0);
        x.rate(0, 0);
        due("13: nothing else is undone", x.undo(), STATE);
    }

    private static void p14When() {
        HalfPlanks x = Check.told("n1;ul9 1;vl9 1;us1 2;");
        due("14: never", x.when(1), NONE);
        x.promises(0, 0);
        x.promises(1, 0);
        due("14: the third crosses", x.promises(2, 0), 3);
        due("14: first behind two", x.when(36), 2);
        due("14: by few", x.when(1), 2);
        x.days();
        due("14: a day on", x.when(36), 1);
        x.days();
        due("14: now", x.when(36), 0);
        x.days();
        due("14: the sworn one came", x.when(1), NONE);
        due("14: 36 now", liars().when(36), 0);
        due("14: below", x.when(0), BAD);
        due("14: above", x.when(37), BAD);
        for (int far : FAR) {
            due("14: far", x.when(far), BAD);
        }
        due("14: nothing changed", x.now(0), 3);
    }

    private static void p15Fewest() {
        HalfPlanks x = Check.told("n3;up5 1;vp4 1;vm3 1;us2 1;x0 0;x1 0;x0 1;");
        due("15: borne already", x.fewest(9, 0), 0);
        due("15: one more", x.fewest(11, 1), 1);
        due("15: too much", x.fewest(12, 1), NONE);
        due("15: two more", x.fewest(9, 2), 2);
        due("15: all", x.fewest(9, -1), 3);
        due("15: none of one", x.fewest(11, -1), NONE);
        x.promises(2, 1);
        due("15: under way is as if it came", x.fewest(11, 1), 0);
        due("15: all then", x.fewest(9, -1), 2);
        HalfPlanks y = liars();
        due("15: liars", y.fewest(36, 0), 0);
        y.promises(2, 0);
        due("15: a sworn one under way", y.fewest(36, 0), NONE);
        due("15: load ahead of plank", x.fewest(0, -1), BAD);
        due("15: load", x.fewest(37, 0), BAD);
        due("15: plank", x.fewest(1, 3), BAD);
        due("15: plank", x.fewest(1, -2), BAD);
        for (int far : FAR) {
            due("15: far", x.fewest(far, 0), BAD);
            due("15: far", x.fewest(1, far), BAD);
        }
    }

    private static void p16Soon() {
        HalfPlanks x = Check.told("n2;up5 3;vp4 2;vp2 1;x0 0;x1 0;");
        due("16: the slowest of two", x.soon(7), 3);
        due("16: none crosses", x.soon(9), 3);
        due("16: too much", x.soon(10), NONE);
        x.promises(0, 1);
        due("16: one under way", x.soon(9), 3);
        x.days();
        x.days();
        due("16: nearer", x.soon(7), 1);
        due("16: the other is slower", x.soon(9), 2);
        x.days();
        x.promises(2, 1);
        x.days();
        due("16: now", x.soon(7), 0);
        due("16: one more is wanted", x.soon(9), 2);
        HalfPlanks y = Check.told("n2;ul9 2;vl9 2;us1 1;x0 0;x1 0;");
        due("16: both planks by liars", y.soon(36), 2);
        y.promises(2, 0);
        due("16: one plank does no more when the other could", y.soon(36), NONE);
        due("16: below", x.soon(0), BAD);
        due("16: above", x.soon(37), BAD);
        for (int far : FAR) {
            due("16: far", x.soon(far), BAD);
        }
    }

    private static void p17Pair() {
        HalfPlanks x = Check.told("n2;up1 1;vp1 1;up1 5;vp1 4;vs1 5;x4 1;");
        due("17: like slow", x.pair(0, 1, 0), 2);
        due("17: the quick one second", x.pair(0, 3, 0), 4);
        due("17: either way round", x.pair(3, 0, 0), 4);
        due("17: one day apart", x.pair(2, 3, 0), 5);
        due("17: both 5", x.pair(2, 4, 0), 6);
        due("17: one bank", x.pair(0, 2, 0), STATE);
        due("17: the same one", x.pair(0, 0, 0), STATE);
        due("17: gave one", x.pair(0, 4, 1), STATE);
        due("17: gave one", x.pair(4, 0, 1), STATE);
        due("17: came is not under way", x.pair(0, 1, 1), 2);
        x.promises(2, 1);
        due("17: another is under way", x.pair(0, 1, 1), STATE);
        due("17: not for that plank", x.pair(0, 1, 0), 2);
        due("17: no such one", x.pair(5, 1, 0), BAD);
        due("17: no such one", x.pair(0, 5, 0), BAD);
        due("17: no such plank", x.pair(0, 1, 2), BAD);
        due("17: bad ahead of state", x.pair(0, 0, 2), BAD);
        for (int far : FAR) {
            due("17: far", x.pair(far, 1, 0), BAD);
            due("17: far", x.pair(0, far, 0), BAD);
            due("17: far", x.pair(0, 1, far), BAD);
        }
    }

    private static void p18Enough() {
        HalfPlanks x = Check.told("n2;up5 1;vm4 1;vp4 1;up4 1;vl7 1;us1 1;x0 0;");
        due("18: of like few the least", x.enough(9), 3);
        due("18: greater than all but two", x.enough(19), 17);
        due("18: too much", x.enough(20), NONE);
        due("18: a sworn one", Check.told("n1;us1 1;us1 1;").enough(2), 3);
        due("18: the even plank is the weak one", Check.told("n2;um4 1;vm4 1;").enough(9), NONE);
        due("18: not by promises of now", liars().enough(36), 3);
        due("18: nobody", new HalfPlanks().enough(1), NONE);
        due("18: below", x.enough(0), BAD);
        due("18: above", x.enough(37), BAD);
        for (int far : FAR) {
            due("18: far", x.enough(far), BAD);
        }
    }

    private static void p19Friends() {
        HalfPlanks x = Check.told("n4;up5 1;vp4 1;um3 1;vm3 1;us2 1;us2 1;ul1 1;vl1 1;");
        due("19: all four", x.friends(4), 4);
        due("19: liars with plain ones", x.friends(6), 4);
        due("19: three", x.friends(8), 3);
        due("19: the pair must fit the plank", x.friends(9), 2);
        due("19: merchants on an uneven one", x.friends(12), 1);
        due("19: none", x.friends(13), 0);
        due("19: no more than planks", Check.told("n1;up1 1;vp1 1;up1 1;vp1 1;").friends(2), 1);
        due("19: no more than pairs", Check.told("n8;up1 1;vp1 1;up1 1;").friends(2), 1);
        due("19: uneven planks only", Check.told("n5;um9 1;vm9 1;um9 1;vm9 1;um9 1;vm9 1;").friends(19), 2);
        due("19: a sworn one makes a liar hold nothing", Check.told("n2;us9 1;vl9 1;").friends(1), 0);
        due("19: nobody", new HalfPlanks().friends(1), 0);
        due("19: below", x.friends(0), BAD);
        due("19: above", x.friends(37), BAD);
        for (int far : FAR) {
            due("19: far", x.friends(far), BAD);
        }
    }

    private static void p20ByTurns() {
        HalfPlanks x = Check.told("n2;up5 1;vp4 1;up3 1;vp2 1;x0 0;x1 0;x2 0;x3 0;x0 1;x1 1;x2 1;x3 1;");
        due("20: none", x.byTurns(0), 9);
        due("20: one breaks", x.byTurns(1), 7);
        due("20: one mends a plank", x.byTurns(2), 7);
        due("20: two broken, one plank mended", x.byTurns(3), 0);
        HalfPlanks one = Check.told("n1;up5 1;vp4 1;up3 1;x0 0;x1 0;");
        due("20: none", one.byTurns(0), 9);
        due("20: one breaks", one.byTurns(1), 0);
        due("20: what broke is mended", one.byTurns(2), 9);
        due("20: and broken again", one.byTurns(3), 0);
        HalfPlanks way = Check.told("n1;up5 1;vp4 1;x0 0;");
        way.promises(1, 0);
        due("20: under way does not hold", way.byTurns(0), 0);
        due("20: it comes at once, but one was broken", way.byTurns(2), 0);
        due("20: nobody", new HalfPlanks().byTurns(3), 0);
        HalfPlanks three = Check.told("n1;up5 1;vp4 1;up3 1;vp2 1;x0 0;x1 0;x2 0;x3 0;");
        due("20: the best of a bank breaks", three.byTurns(1), 7);
        due("20: it is back, the other breaks", three.byTurns(3), 7);
        HalfPlanks first = Check.told("n1;up9 1;up1 1;vp9 1;vp8 1;x0 0;x1 0;x2 0;x3 0;");
        due("20: what broke is back, the first one breaks", first.byTurns(3), 10);
        HalfPlanks spare = Check.told("n1;up5 1;vp4 1;up3 1;x0 0;x1 0;x2 0;");
        due("20: the only one of a bank breaks", spare.byTurns(1), 0);
        due("20: and again", spare.byTurns(3), 0);
        // To mend by the sworn one would make the liars hold nothing, so it is better not to.
        HalfPlanks liars = Check.told("n1;ul9 1;vl9 1;ul8 1;vl8 1;us1 1;x0 0;x1 0;x2 0;x3 0;");
        due("20: a liar breaks", liars.byTurns(1), 34);
        due("20: it is back", liars.byTurns(2), 36);
        due("20: below", x.byTurns(-1), BAD);
        due("20: above", x.byTurns(4), BAD);
        for (int far : FAR) {
            due("20: far", x.byTurns(far), BAD);
        }
        due("20: nothing changed", one.now(1), 9);
    }

    private static void odds(HalfPlanks x, int by, int load, int upper, int lower) {
        due("21: odds(" + by + ", " + load + ", 0)", x.odds(by, load, 0), upper);
        due("21: odds(" + by + ", " + load + ", 1)", x.odds(by, load, 1), lower);
    }

    private static void p21Odds() {
        HalfPlanks x = Check.told("n1;up1 1;vp1 1;x0 0;x1 0;");
        odds(x, 0, 2, 1, 1);
        odds(x, 10, 2, 0, 1);
        odds(x, 5, 2, 1, 4);
        odds(x, 3, 2, 49, 100);
        odds(x, 3, 3, 0, 1);
        HalfPlanks sworn = Check.told("n1;us1 1;ul9 1;vl9 1;x0 0;x1 0;x2 0;");
        odds(sworn, 2, 36, 16, 125);
        odds(sworn, 5, 36, 1, 8);
        HalfPlanks many = Check.told("n1;up1 1;vp1 1;up1 1;vp1 1;up1 1;vp1 1;up1 1;vp1 1;x0 0;x1 0;");
        odds(many, 9, 1, 1, 100);
        odds(many, 0, 1, 1, 1);
        odds(many, 7, 1, 9, 100);
        HalfPlanks spare = Check.told("n1;up1 1;vp1 1;up1 1;vp1 1;up1 1;vp1 1;up1 1;vp1 1;"
            + "x0 0;x1 0;x2 0;x3 0;x4 0;x5 0;x6 0;x7 0;");
        odds(spare, 9, 1, 11826721, 100000000);
        HalfPlanks way = Check.told("n1;up1 1;vp1 1;x0 0;");
        way.promises(1, 0);
        odds(way, 0, 1, 0, 1);
        due("21: x below", x.odds(-1, 1, 0), BAD);
        due("21: x above", x.odds(11, 1, 0), BAD);
        due("21: load below", x.odds(0, 0, 0), BAD);
        due("21: load above", x.odds(0, 37, 0), BAD);
        due("21: what below", x.odds(0, 1, -1), BAD);
        due("21: what above", x.odds(0, 1, 2), BAD);
        for (int far : FAR) {
            due("21: far", x.odds(far, 1, 0), BAD);
            due("21: far", x.odds(0, far, 0), BAD);
            due("21: far", x.odds(0, 1, far), BAD);
        }
    }

    private static void p22Winter() {
        // The lots from 1 on: odd, odd, odd, even, even, even, even, even, odd, odd.
        HalfPlanks x = Check.told("n1;up1 1;vp1 1;");
        due("22: no day", x.winter(0, 1, 1), 0);
        due("22: three", x.winter(3, 1, 1), 0);
        due("22: four", x.winter(4, 1, 2), 1);
        due("22: five", x.winter(5, 1, 2), 1);
        due("22: ten", x.winter(10, 1, 1), 4);
        due("22: too much", x.winter(10, 1, 3), 0);
        due("22: nothing changed", x.now(4) + x.now(0) + x.now(5), 0);
        due("22: nobody", new HalfPlanks().winter(60, 999999, 1), 0);
        due("22: days below", x.winter(-1, 1, 1), BAD);
        due("22: days above", x.winter(61, 1, 1), BAD);
        due("22: seed below", x.winter(1, 0, 1), BAD);
        due("22: seed above", x.winter(1, 1000000, 1), BAD);
        due("22: load below", x.winter(1, 1, 0), BAD);
        due("22: load above", x.winter(1, 1, 37), BAD);
        for (int far : FAR) {
            due("22: far", x.winter(far, 1, 1), BAD);
            due("22: far", x.winter(1, 1, far), BAD);
        }
        due("22: far", x.winter(1, Integer.MAX_VALUE, 1), BAD);
        due("22: far", x.winter(1, Integer.MIN_VALUE, 1), BAD);
    }

    private static void p23And24SeesForget() {
        HalfPlanks x = new HalfPlanks();
        due("23: load below", x.sees(0, 1), BAD);
        due("23: load above", x.sees(37, 1), BAD);
        due("23: over below", x.sees(1, -1), BAD);
        due("23: over above", x.sees(1, 2), BAD);
        for (int far : FAR) {
            due("23: far", x.sees(far, 0), BAD);
            due("23: far", x.sees(1, far), BAD);
        }
        due("24: nothing", x.forget(), 0);
        for (int i = 1; i <= 6; i++) {
            due("23: sees", x.sees(i == 1 ? 36 : 1, i % 2), i);
        }
        due("23: full", x.sees(1, 1), FULL);
        due("23: bad ahead of full", x.sees(0, 1), BAD);
        due("23: count", x.count(2), 6);
        due("24: forgets", x.forget(), 6);
        due("24: count", x.count(2), 0);
        due("24: again", x.forget(), 0);
        due("23: from the start", x.sees(1, 1), 1);
    }

    private static void words(HalfPlanks x, int a, int number, int least, int greatest) {
        due("25: words(" + a + ", 0)", x.words(a, 0), number);
        due("25: words(" + a + ", 1)", x.words(a, 1), least);
        due("25: words(" + a + ", 2)", x.words(a, 2), greatest);
    }

    private static void p25Words() {
        HalfPlanks x = Check.told("n1;up5 1;vp4 1;vc1 1;x0 0;x1 0;");
        words(x, 0, 9, 1, 9);
        x.sees(7, 1);
        words(x, 0, 7, 3, 9);
        x.sees(11, 0);
        words(x, 0, 4, 3, 6);
        words(x, 1, 4, 2, 5);
        words(x, 2, 9, 1, 9);
        x.promises(2, 0);
        x.breaks(1, 0);
        x.days();
        // By the promises as they are now: word and child, of whom 1 .. 3 is held.
        words(x, 0, 4, 6, 9);
        words(x, 2, 8, 2, 9);
        due("25: the word itself is as it was", x.person(0, 2), 5);
        x.sees(7, 0);
        words(x, 0, 0, NONE, NONE);
        x.forget();
        words(x, 0, 9, 1, 9);
        due("25: no such one", x.words(3, 0), BAD);
        due("25: below", x.words(0, -1), BAD);
        due("25: above", x.words(0, 3), BAD);
        for (int far : FAR) {
            due("25: far", x.words(far, 0), BAD);
            due("25: far", x.words(0, far), BAD);
        }
    }

    private static void p26Next() {
        HalfPlanks x = Check.told("n1;up5 1;vp4 1;vc1 1;x0 0;x1 0;");
        due("26: five of nine", x.next(0), 9);
        due("26: all alike", x.next(2), 1);
        x.sees(9, 1);
        due("26: of five", x.next(0), 11);
        x.sees(12, 0);
        due("26: of three", x.next(0), 10);
        x.sees(10, 0);
        due("26: one is left", x.next(0), NONE);
        x.sees(9, 0);
        due("26: none is left", x.next(0), NONE);
        due("26: no such one", x.next(3), BAD);
        for (int far : FAR) {
            due("26: far", x.next(far), BAD);
        }
    }

    private static void p27And31RateTrace() {
        HalfPlanks x = Check.told("n4;up5 3;vl2 4;x1 0;x1 1;x1 2;");
        x.promises(1, 3);
        int[] due = {2, 6, 12, 5, -2, -5};
        long[] adds = {1, 11, 111, 1001, 10001, 110001};
        long trace = 0;
        for (int kind = 0; kind <= 5; kind++) {
            due("27: rate(" + kind + ", 1)", x.rate(kind, 1), due[kind]);
            trace += adds[kind];
            due("31: trace behind " + kind, x.trace(), trace);
        }
        due("27: kind below", x.rate(-1, 0), NO);
        due("27: kind above", x.rate(6, 0), NO);
        due("27: no such one", x.rate(0, 2), NO);
        due("27: no such one", x.rate(0, -1), NO);
        for (int far : FAR) {
            due("27: far", x.rate(far, 0), NO);
            due("27: far", x.rate(0, far), NO);
        }
        due("31: the refused add nothing", x.trace(), trace);
        x.undo();
        x.keep(0);
        x.back(0);
        due("31: as it was", x.trace(), trace);
        due("27: nobody", new HalfPlanks().rate(0, 0), NO);
    }

    private static void p28And29Images() {
        HalfPlanks x = mixed();
        due("28: below", x.keep(-1), BAD);
        due("28: above", x.keep(2), BAD);
        due("29: below", x.back(-1), BAD);
        due("29: above", x.back(2), BAD);
        for (int far : FAR) {
            due("28: far", x.keep(far), BAD);
            due("29: far", x.back(far), BAD);
        }
        due("29: none was kept", x.back(0), STATE);
        x.promises(0, 1);
        x.crosses(1);
        x.days();
        due("28: the day", x.keep(1), 1);
        due("28: undo is as it was", x.now(5), 3);
        due("29: the other is none", x.back(0), STATE);
        due("29: refused, undo is as it was", x.now(5), 3);
        x.breaks(2, 0);
        x.days();
        x.crosses(1);
        x.sees(5, 1);
        due("28: the other", x.keep(0), 2);
        due("29: the day", x.back(1), 1);
        now(x, 1, 6, 3, 1, 1, 0);
        due("29: under way again", x.person(0, 5), 2);
        due("29: what was seen stays", x.count(2), 1);
        due("29: undo", x.undo(), STATE);
        due("29: it comes", x.days(), 1);
        due("29: the image is as it was", x.back(1), 1);
        due("29: it comes again", x.days(), 1);
        due("29: the other image", x.back(0), 2);
        due("29: broken there", x.now(1), 0);
        x.days();
        due("28: kept again", x.keep(0), 3);
        due("29: the newer one", x.back(0), 3);
    }

    private static void p30Count() {
        HalfPlanks x = mixed();
        x.sees(1, 1);
        x.type('n');
        x.type('1');
        x.type(';');
        due("30: planks", x.count(0), 2);
        due("30: people", x.count(1), 4);
        due("30: seen", x.count(2), 1);
        due("30: letters", x.count(3), 3);
        due("30: below", x.count(-1), BAD);
        due("30: above", x.count(4), BAD);
        for (int far : FAR) {
            due("30: far", x.count(far), BAD);
        }
    }
}
