import java.util.Random;

/** Long runs of calls by lots: the class and the plain model must answer alike. */
public final class ModelTest {
    private static final int RUNS = 600;
    private static final int CALLS = 512;
    private static final String KINDS = "pcsml";

    private final Random lots;
    private final int run;
    private final HalfPlanks real = new HalfPlanks();
    private final Model model = new Model();
    private int calls = 0;
    private int wrong = 0;

    private ModelTest(int run) {
        this.run = run;
        lots = new Random(run);
    }

    public static void main(String[] args) {
        int runs = args.length > 0 ? Integer.parseInt(args[0]) : RUNS;
        long total = 0;
        for (int run = 0; run < runs; run++) {
            ModelTest test = new ModelTest(run);
            while (test.calls < CALLS) {
                test.tell();
                int steps = 40 + test.lots.nextInt(120);
                for (int i = 0; i < steps && test.calls < CALLS; i++) {
                    test.step();
                }
            }
            if (test.wrong > 0) {
                System.out.println("run " + run + " went apart");
                System.exit(1);
            }
            total += test.calls;
        }
        System.out.println(total + " calls, class and model answer alike");
    }

    private void same(String call, long got, long due) {
        calls++;
        if (got != due) {
            wrong++;
            System.out.println("run " + run + ", call " + calls + ": " + call + " answered " + got + ", due is " + due);
        }
    }

    private int lot(int least, int most) {
        return least + lots.nextInt(most - least + 1);
    }

    private void tell() {
        String text = text();
        if (lots.nextInt(4) == 0) {
            text = spoilt(text);
        }
        for (int i = 0; i < text.length() && i < 121; i++) {
            int letter = text.charAt(i);
            same("type(" + letter + ")", real.type(letter), model.type(letter));
        }
        same("gorge()", real.gorge(), model.gorge());
        if (real.count(3) > 0) {
            same("clear()", real.clear(), model.clear());
        }
        calls++;
    }

    private String text() {
        StringBuilder text = new StringBuilder();
        int planks = 3;
        if (lots.nextInt(4) > 0) {
            planks = lots.nextInt(2) == 0 ? lot(1, 3) : lot(1, 8);
            text.append(gap()).append('n').append(gap()).append(planks).append(gap()).append(';');
        }
        int people = lots.nextInt(6) == 0 ? lot(0, 3) : lot(4, 8);
        String kinds = lots.nextInt(2) == 0 ? KINDS : "slslm";
        for (int a = 0; a < people; a++) {
            text.append(gap()).append(lots.nextBoolean() ? 'u' : 'v').append(gap());
            text.append(kinds.charAt(lots.nextInt(5))).append(gap()).append(lot(1, 9)).append(' ');
            text.append(lot(1, 5)).append(';');
            if (lots.nextInt(3) == 0) {
                promise(text, a, planks);
            }
        }
        int more = people == 0 ? 0 : lot(0, 12);
        for (int i = 0; i < more && text.length() < 112; i++) {
            promise(text, lots.nextInt(people), planks);
        }
        return text.toString();
    }

    private void promise(StringBuilder text, int a, int planks) {
        String told = "x" + a + " " + lots.nextInt(planks) + ";";
        // A promise told twice is a fault: wanted, but seldom.
        if (text.indexOf(told) < 0 || lots.nextInt(20) == 0) {
            text.append(told);
        }
    }

    private String gap() {
        return lots.nextInt(30) == 0 ? "  " : "";
    }

    private String spoilt(String text) {
        StringBuilder spoilt = new StringBuilder(text);
        int at = lots.nextInt(text.length() + 1);
        String letters = "nuvxpcsml;0123456789 ; 09a%\u00e9\t";
        char letter = letters.charAt(lots.nextInt(letters.length()));
        switch (lots.nextInt(4)) {
            case 0:
                return spoilt.insert(at, letter).toString();
            case 1:
                return at < text.length() ? spoilt.deleteCharAt(at).toString() : text;
            case 2:
                return text.substring(0, at);
            default:
                if (at < text.length()) {
                    spoilt.setCharAt(at, letter);
                }
                return spoilt.toString();
        }
    }

    /** Mostly a number of the range, seldom one beyond it. */
    private int about(int least, int most) {
        if (lots.nextInt(25) == 0) {
            int[] beyond = {least - 1, most + 1, Integer.MIN_VALUE, Integer.MAX_VALUE, -1000, 64};
            return beyond[lots.nextInt(beyond.length)];
        }
        return least > most ? least : lot(least, most);
    }

    private int someone() {
        return about(0, real.count(1) - 1);
    }

    private int somePlank() {
        return about(0, real.count(0) - 1);
    }

    /** Loads that a bridge may well bear come more often. */
    private int someLoad() {
        return lots.nextInt(3) == 0 ? about(1, 36) : about(1, 14);
    }

    private void step() {
        int kind = lots.nextInt(100);
        if (kind < 45) {
            act();
        } else if (kind < 65) {
            look();
        } else if (kind < 85) {
            plan();
        } else {
            guess();
        }
    }

    private void act() {
        int a = someone();
        int p = somePlank();
        int load = someLoad();
        int image = about(0, 1);
        int what = lots.nextInt(40);
        if (what < 18) {
            same("promises(" + a + ", " + p + ")", real.promises(a, p), model.promises(a, p));
        } else if (what < 22) {
            same("breaks(" + a + ", " + p + ")", real.breaks(a, p), model.breaks(a, p));
        } else if (what < 28) {
            same("days()", real.days(), model.days());
        } else if (what < 32) {
            same("crosses(" + load + ")", real.crosses(load), model.crosses(load));
        } else if (what < 36) {
            same("undo()", real.undo(), model.undo());
        } else if (what < 38) {
            same("keep(" + image + ")", real.keep(image), model.keep(image));
        } else {
            same("back(" + image + ")", real.back(image), model.back(image));
        }
    }

    private void look() {
        int a = someone();
        int p = somePlank();
        switch (lots.nextInt(6)) {
            case 0: {
                int what = about(0, 7);
                same("person(" + a + ", " + what + ")", real.person(a, what), model.person(a, what));
                break;
            }
            case 1: {
                int what = about(0, 2);
                same("plank(" + p + ", " + what + ")", real.plank(p, what), model.plank(p, what));
                break;
            }
            case 2:
                same("hold(" + a + ", " + p + ")", real.hold(a, p), model.hold(a, p));
                break;
            case 3: {
                int what = about(0, 5);
                same("now(" + what + ")", real.now(what), model.now(what));
                break;
            }
            case 4: {
                int what = about(0, 3);
                same("count(" + what + ")", real.count(what), model.count(what));
                break;
            }
            default:
                rate(about(0, 5), a);
        }
    }

    private void rate(int kind, int a) {
        same("rate(" + kind + ", " + a + ")", real.rate(kind, a), model.rate(kind, a));
        same("trace()", real.trace(), model.trace());
    }

    private void plan() {
        int load = someLoad();
        int p = somePlank();
        int a = someone();
        int b = someone();
        switch (lots.nextInt(10)) {
            case 0:
                same("when(" + load + ")", real.when(load), model.when(load));
                break;
            case 1: {
                int which = lots.nextBoolean() ? -1 : p;
                same("fewest(" + load + ", " + which + ")", real.fewest(load, which), model.fewest(load, which));
                break;
            }
            case 2:
            case 3:
                same("soon(" + load + ")", real.soon(load), model.soon(load));
                break;
            case 4:
                same("pair(" + a + ", " + b + ", " + p + ")", real.pair(a, b, p), model.pair(a, b, p));
                break;
            case 5:
                same("enough(" + load + ")", real.enough(load), model.enough(load));
                break;
            case 6:
                same("friends(" + load + ")", real.friends(load), model.friends(load));
                break;
            case 7: {
                // Three turns are dear for the model.
                int n = lots.nextInt(8) == 0 ? 3 : about(0, 2);
                same("byTurns(" + n + ")", real.byTurns(n), model.byTurns(n));
                break;
            }
            case 8: {
                int x = about(0, 10);
                int what = about(0, 1);
                same("odds(" + x + ", " + load + ", " + what + ")", real.odds(x, load, what), model.odds(x, load, what));
                break;
            }
            default: {
                int n = about(0, 60);
                int seed = about(1, 999999);
                same("winter(" + n + ", " + seed + ", " + load + ")", real.winter(n, seed, load),
                    model.winter(n, seed, load));
            }
        }
    }

    private void guess() {
        int a = someone();
        int load = someLoad();
        switch (lots.nextInt(7)) {
            case 0:
            case 1: {
                // What is so by the word as it is leaves words more often than what is not.
                int over = lots.nextInt(3) == 0 ? about(0, 1) : real.now(1) >= load ? 1 : 0;
                same("sees(" + load + ", " + over + ")", real.sees(load, over), model.sees(load, over));
                break;
            }
            case 2:
                same("forget()", real.forget(), model.forget());
                break;
            case 3:
            case 4: {
                int what = about(0, 2);
                same("words(" + a + ", " + what + ")", real.words(a, what), model.words(a, what));
                break;
            }
            default:
                same("next(" + a + ")", real.next(a), model.next(a));
        }
    }
}
