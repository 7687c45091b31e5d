/** Counts answers that are not the ones due, and prints them. */
final class Check {
    private int asked = 0;
    private int askedAtBegin = 0;
    private int wrong = 0;
    private String test = "";

    /** Notes which test the answers that follow belong to. */
    void begin(String name) {
        test = name + ": ";
        askedAtBegin = asked;
    }

    int askedSinceBegin() {
        return asked - askedAtBegin;
    }

    /** Notes one answer beside the one that is due. */
    void same(String call, long got, long due) {
        asked++;
        if (got != due) {
            wrong++;
            System.out.println(test + call + " answered " + got + ", due is " + due);
        }
    }

    void isTrue(String what, boolean holds) {
        same(what, holds ? 1 : 0, 1);
    }

    /** Ends the test: exit code 1 if an answer was wrong. */
    void end() {
        System.out.println(asked + " answers looked at, " + wrong + " not as due");
        if (wrong != 0 || asked == 0) {
            System.exit(1);
        }
    }

    /** Types a text into an object, letter by letter. */
    static void type(HalfPlanks x, String text) {
        for (int i = 0; i < text.length(); i++) {
            x.type(text.charAt(i));
        }
    }

    /** A new object that was told a text. */
    static HalfPlanks told(String text) {
        HalfPlanks x = new HalfPlanks();
        type(x, text);
        int items = x.gorge();
        if (items < 0) {
            throw new IllegalArgumentException("the test's own text has a fault: " + text + " " + items);
        }
        return x;
    }

    /** Lets so many days go by. */
    static void days(HalfPlanks x, int number) {
        for (int i = 0; i < number; i++) {
            x.days();
        }
    }
}
