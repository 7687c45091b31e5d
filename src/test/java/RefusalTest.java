import java.util.ArrayList;
import java.util.List;

/**
 * "Refused, and nothing changes": each refused call is made on one of two like objects, and then both
 * must answer alike in all that can be asked of them. So must they behind a call that only asks
 * ("As things are NOW; nothing is changed").
 */
public final class RefusalTest {
    private static final int BAD = -1, STATE = -2, FULL = -3, NO = -1000000;
    /** A call's name has its promise's number ahead of it. */
    private static final Check CHECK = new Check();

    private interface Call {
        long on(HalfPlanks x, int[] given);
    }

    private interface Scene {
        HalfPlanks make();
    }

    private interface Probe {
        void ask(HalfPlanks x, List<Long> answers);
    }

    /** What is called, and from which to which each number it takes may be. */
    private record Face(String name, Call call, int[] least, int[] most) { }

    private static final Scene[] SCENES = {
        HalfPlanks::new, RefusalTest::told, RefusalTest::busy, RefusalTest::full, RefusalTest::imageAlone,
        RefusalTest::faulty};
    private static final Probe[] PROBES = {
        RefusalTest::asIs, RefusalTest::plans, RefusalTest::undone, RefusalTest::firstImage,
        RefusalTest::secondImage, RefusalTest::readAnew, RefusalTest::goneOn};

    public static void main(String[] args) {
        for (Scene scene : SCENES) {
            for (Face face : faces(scene.make())) {
                badNumbers(scene, face);
            }
            for (Face face : asking(scene.make())) {
                askedOnly(scene, face);
            }
        }
        refusedByState();
        refusedByFull();
        refusedTexts();
        CHECK.end();
    }

    // ---- scenes

    private static HalfPlanks told() {
        return Check.told("n2;us4 2;vl3 1;vp2 1;um3 5;x0 0;x2 0;x3 1;x1 1;");
    }

    /** Something of all: under way, came, crossed, seen, typed, two unlike images, more than ten to undo. */
    private static HalfPlanks busy() {
        HalfPlanks x = Check.told("n2;us4 2;vl3 1;vp2 1;um3 5;uc9 1;x0 0;x2 0;x3 1;x1 1;");
        x.keep(0);
        x.crosses(6);
        x.promises(2, 1);
        Check.days(x, 3);
        x.promises(4, 0);
        x.breaks(1, 1);
        x.keep(1);
        x.crosses(1);
        x.days();
        x.promises(3, 0);
        x.promises(1, 0);
        x.crosses(2);
        x.promises(0, 1);
        x.rate(5, 1);
        x.sees(6, 1);
        x.sees(9, 0);
        Check.type(x, "n1;up1 1;vp1 2;");
        return x;
    }

    /** As much of all as there can be. */
    private static HalfPlanks full() {
        HalfPlanks x = Check.told("n8;us1 1;vs2 1;up3 1;vp4 1;uc5 1;vm6 1;ul7 1;vl8 1;x0 0;x1 1;");
        for (int p = 0; p < 8; p++) {
            x.promises(p, p);
            x.promises(7 - p, p);
        }
        for (int i = 0; i < 6; i++) {
            x.sees(36 - i, 0);
        }
        Check.type(x, " ".repeat(25));
        Check.type(x, "n8;up1 1;vp1 1;x0 0;x1 0;x0 1;x1 1;x0 2;x1 2;x0 3;x1 3;x0 4;x1 4;x0 5;x1 5;x0 6;x1 6;x0 7;x1 7;");
        return x;
    }

    /** Nothing to undo, as it came back to its second image; the first one is none. */
    private static HalfPlanks imageAlone() {
        HalfPlanks x = told();
        x.promises(0, 1);
        x.days();
        x.keep(1);
        x.days();
        x.back(1);
        return x;
    }

    /** The first image is none, but there is something to undo. */
    private static HalfPlanks imageAndMore() {
        HalfPlanks x = imageAlone();
        x.crosses(1);
        x.days();
        return x;
    }

    /** Six are seen, of which the first and the last leave one word of person 0. */
    private static HalfPlanks allSeen() {
        HalfPlanks x = told();
        x.sees(6, 1);
        for (int i = 0; i < 4; i++) {
            x.sees(20, 0);
        }
        x.sees(7, 0);
        return x;
    }

    private static HalfPlanks faulty() {
        HalfPlanks x = busy();
        x.clear();
        Check.type(x, "n3;ul1 1;x0 0;x0 0;");
        return x;
    }

    // ---- what can be asked of an object; each probe has an object of its own, so 512 calls are enough

    private static void asIs(HalfPlanks x, List<Long> answers) {
        int planks = x.count(0);
        int people = x.count(1);
        for (int what = -1; what <= 8; what++) {
            answers.add((long) x.now(what));
            answers.add((long) x.count(what));
            for (int a = 0; a < people; a++) {
                answers.add((long) x.person(a, what));
            }
        }
        for (int p = 0; p < planks; p++) {
            for (int what = 0; what <= 2; what++) {
                answers.add((long) x.plank(p, what));
            }
            for (int a = 0; a < people; a++) {
                answers.add((long) x.hold(a, p));
            }
        }
        answers.add(x.trace());
    }

    private static void plans(HalfPlanks x, List<Long> answers) {
        for (int load = 1; load <= 36; load += 5) {
            answers.add((long) x.when(load));
            answers.add((long) x.soon(load));
            answers.add((long) x.fewest(load, -1));
            answers.add((long) x.enough(load));
            answers.add((long) x.friends(load));
            answers.add((long) x.odds(3, load, 0));
            answers.add((long) x.winter(40, 1 + load, load));
        }
        int people = x.count(1);
        for (int a = 0; a < people; a++) {
            for (int what = 0; what <= 2; what++) {
                answers.add((long) x.words(a, what));
            }
            answers.add((long) x.next(a));
            answers.add((long) x.rate(5, a));
        }
        for (int n = 0; n <= 3; n++) {
            answers.add((long) x.byTurns(n));
        }
    }

    private static void glance(HalfPlanks x, List<Long> answers) {
        for (int what = 0; what <= 5; what++) {
            answers.add((long) x.now(what));
        }
        int people = x.count(1);
        for (int a = 0; a < people; a++) {
            answers.add((long) x.person(a, 4));
            answers.add((long) x.person(a, 5));
        }
    }

    private static void undone(HalfPlanks x, List<Long> answers) {
        for (int i = 0; i < 11; i++) {
            answers.add((long) x.undo());
            glance(x, answers);
        }
    }

    private static void image(HalfPlanks x, int image, List<Long> answers) {
        answers.add((long) x.back(image));
        for (int i = 0; i < 7; i++) {
            glance(x, answers);
            answers.add((long) x.days());
        }
    }

    private static void firstImage(HalfPlanks x, List<Long> answers) {
        image(x, 0, answers);
    }

    private static void secondImage(HalfPlanks x, List<Long> answers) {
        image(x, 1, answers);
    }

    private static void readAnew(HalfPlanks x, List<Long> answers) {
        answers.add((long) x.gorge());
        asIs(x, answers);
        answers.add((long) x.clear());
    }

    /** Letters go on to come, and there is as much room as there was. */
    private static void goneOn(HalfPlanks x, List<Long> answers) {
        for (int i = 0; i < 7; i++) {
            answers.add((long) x.days());
            glance(x, answers);
        }
        for (int i = 0; i < 7; i++) {
            answers.add((long) x.sees(3, 1));
        }
        answers.add((long) x.type(' '));
        answers.add((long) x.forget());
        answers.add((long) x.keep(0));
        answers.add((long) x.back(0));
        answers.add(x.trace());
    }

    private static List<Long> heard(Probe probe, HalfPlanks x) {
        List<Long> answers = new ArrayList<>();
        probe.ask(x, answers);
        return answers;
    }

    // ---- calls

    private static int[] row(int... numbers) {
        return numbers;
    }

    private static Face face(String name, Call call, int[] least, int[] most) {
        return new Face(name, call, least, most);
    }

    /** All calls that take numbers. */
    private static List<Face> faces(HalfPlanks x) {
        List<Face> all = asking(x);
        int person = x.count(1) - 1;
        int plank = x.count(0) - 1;
        all.add(face("2 type", (y, n) -> y.type(n[0]), row(0), row(255)));
        all.add(face("9 promises", (y, n) -> y.promises(n[0], n[1]), row(0, 0), row(person, plank)));
        all.add(face("10 breaks", (y, n) -> y.breaks(n[0], n[1]), row(0, 0), row(person, plank)));
        all.add(face("12 crosses", (y, n) -> y.crosses(n[0]), row(1), row(36)));
        all.add(face("23 sees", (y, n) -> y.sees(n[0], n[1]), row(1, 0), row(36, 1)));
        all.add(face("27 rate", (y, n) -> y.rate(n[0], n[1]), row(0, 0), row(5, person)));
        all.add(face("28 keep", (y, n) -> y.keep(n[0]), row(0), row(1)));
        all.add(face("29 back", (y, n) -> y.back(n[0]), row(0), row(1)));
        return all;
    }

    /** Those that take numbers and change nothing, whatever they answer. */
    private static List<Face> asking(HalfPlanks x) {
        List<Face> all = new ArrayList<>();
        int person = x.count(1) - 1;
        int plank = x.count(0) - 1;
        all.add(face("5 person", (y, n) -> y.person(n[0], n[1]), row(0, 0), row(person, 7)));
        all.add(face("6 plank", (y, n) -> y.plank(n[0], n[1]), row(0, 0), row(plank, 2)));
        all.add(face("7 hold", (y, n) -> y.hold(n[0], n[1]), row(0, 0), row(person, plank)));
        all.add(face("8 now", (y, n) -> y.now(n[0]), row(0), row(5)));
        all.add(face("14 when", (y, n) -> y.when(n[0]), row(1), row(36)));
        all.add(face("15 fewest", (y, n) -> y.fewest(n[0], n[1]), row(1, -1), row(36, plank)));
        all.add(face("16 soon", (y, n) -> y.soon(n[0]), row(1), row(36)));
        all.add(face("17 pair", (y, n) -> y.pair(n[0], n[1], n[2]), row(0, 0, 0), row(person, person, plank)));
        all.add(face("18 enough", (y, n) -> y.enough(n[0]), row(1), row(36)));
        all.add(face("19 friends", (y, n) -> y.friends(n[0]), row(1), row(36)));
        all.add(face("20 byTurns", (y, n) -> y.byTurns(n[0]), row(0), row(3)));
        all.add(face("21 odds", (y, n) -> y.odds(n[0], n[1], n[2]), row(0, 1, 0), row(10, 36, 1)));
        all.add(face("22 winter", (y, n) -> y.winter(n[0], n[1], n[2]), row(0, 1, 1), row(60, 999999, 36)));
        all.add(face("25 words", (y, n) -> y.words(n[0], n[1]), row(0, 0), row(person, 2)));
        all.add(face("26 next", (y, n) -> y.next(n[0]), row(0), row(person)));
        all.add(face("30 count", (y, n) -> y.count(n[0]), row(0), row(3)));
        return all;
    }

    private static String written(String name, int[] given) {
        StringBuilder text = new StringBuilder(name).append("(");
        for (int i = 0; i < given.length; i++) {
            text.append(i == 0 ? "" : ", ").append(given[i]);
        }
        return text.append(")").toString();
    }

    /** Makes the call on one of two like objects; what each probe hears of them must be alike. */
    private static void leavesAll(Scene scene, String name, Call call, int... given) {
        for (int i = 0; i < PROBES.length; i++) {
            HalfPlanks asked = scene.make();
            call.on(asked, given);
            List<Long> behind = heard(PROBES[i], asked);
            List<Long> without = heard(PROBES[i], scene.make());
            CHECK.isTrue(written(name, given) + " leaves all as it is, probe " + i, behind.equals(without));
        }
    }

    private static void refused(Scene scene, int due, String name, Call call, int... given) {
        CHECK.same(written(name, given), call.on(scene.make(), given), due);
        leavesAll(scene, name, call, given);
    }

    // ---- tests

    /** Each number in turn too small and too large, all others as they may be (if any may). */
    private static void badNumbers(Scene scene, Face face) {
        int due = face.name.equals("27 rate") ? NO : BAD;
        for (int i = 0; i < face.least.length; i++) {
            int[] wrong = {face.least[i] - 1, face.most[i] + 1, Integer.MIN_VALUE, Integer.MAX_VALUE};
            for (int number : wrong) {
                int[] given = face.most.clone();
                given[i] = number;
                refused(scene, due, face.name, face.call, given);
            }
        }
    }

    private static void askedOnly(Scene scene, Face face) {
        leavesAll(scene, face.name, face.call, face.least);
        leavesAll(scene, face.name, face.call, face.most);
    }

    private static void refusedByState() {
        Scene busy = RefusalTest::busy;
        Call promises = (y, n) -> y.promises(n[0], n[1]);
        Call breaks = (y, n) -> y.breaks(n[0], n[1]);
        Call crosses = (y, n) -> y.crosses(n[0]);
        Call pair = (y, n) -> y.pair(n[0], n[1], n[2]);
        Call undo = (y, n) -> y.undo();
        Call back = (y, n) -> y.back(n[0]);
        refused(busy, STATE, "9 promises, which came", promises, 0, 0);
        refused(busy, STATE, "9 promises, which was posted and came", promises, 2, 1);
        refused(busy, STATE, "9 promises, which is under way", promises, 0, 1);
        refused(busy, STATE, "10 breaks, which is none", breaks, 4, 1);
        refused(busy, STATE, "10 breaks, which was broken", breaks, 1, 1);
        refused(busy, STATE, "12 crosses, one too much", crosses, busy().now(1) + 1);
        refused(busy, STATE, "12 crosses, too much", crosses, 36);
        refused(HalfPlanks::new, STATE, "12 crosses, nothing lies", crosses, 1);
        refused(HalfPlanks::new, STATE, "13 undo, nothing was done", undo);
        refused(RefusalTest::told, STATE, "13 undo, read anew", undo);
        refused(RefusalTest::imageAlone, STATE, "13 undo, behind back()", undo);
        refused(RefusalTest::told, STATE, "17 pair, one bank", pair, 1, 2, 0);
        refused(RefusalTest::told, STATE, "17 pair, the same one", pair, 1, 1, 0);
        refused(RefusalTest::told, STATE, "17 pair, one gave one", pair, 0, 1, 0);
        refused(busy, STATE, "17 pair, one is under way", pair, 1, 4, 1);
        refused(HalfPlanks::new, STATE, "29 back, none was kept", back, 0);
        refused(RefusalTest::imageAlone, STATE, "29 back, none was kept there", back, 0);
        refused(RefusalTest::imageAndMore, STATE, "29 back, none was kept there", back, 0);
    }

    private static void refusedByFull() {
        Scene full = RefusalTest::full;
        Call type = (y, n) -> y.type(n[0]);
        Call sees = (y, n) -> y.sees(n[0], n[1]);
        refused(full, FULL, "2 type, full", type, ';');
        refused(full, FULL, "2 type, full", type, 0);
        refused(full, FULL, "2 type, full", type, 255);
        refused(full, FULL, "23 sees, full", sees, 36, 1);
        refused(full, FULL, "23 sees, full", sees, 1, 0);
        for (int load = 1; load <= 36; load += 7) {
            refused(RefusalTest::allSeen, FULL, "23 sees, full", sees, load, 0);
            refused(RefusalTest::allSeen, FULL, "23 sees, full", sees, load, 1);
        }
        refused(full, BAD, "2 type, bad ahead of full", type, 256);
        refused(full, BAD, "23 sees, bad ahead of full", sees, 37, 1);
        refused(full, BAD, "23 sees, bad ahead of full", sees, 36, 2);
    }

    /** Faults at the start, on the way and at the end, behind which some was read already. */
    private static void refusedTexts() {
        String[] texts = {
            "%", "n9;", "n1;n1;", "n8;up1 1;vl9 5;x0 0;x0 0;", "up1 1;".repeat(9), "n1;us9 1;us9 1;x0 0;x1 0",
            "n8;us9 1;us9 1;x0 0;x1 0;x0 8;", "up1 1;x0 0;100"};
        int[] places = {0, 1, 3, 23, 48, 24, 28, 11};
        Call gorge = (y, n) -> y.gorge();
        refused(RefusalTest::faulty, -10 - 17, "4 gorge", gorge);
        for (int i = 0; i < texts.length; i++) {
            String text = texts[i];
            Scene scene = () -> {
                HalfPlanks x = busy();
                x.clear();
                Check.type(x, text);
                return x;
            };
            refused(scene, -10 - places[i], "4 gorge of '" + text + "'", gorge);
        }
    }
}
