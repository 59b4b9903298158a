/** Counts and prints the answers that are not as due. */
final class Check {
    private final String test;
    private int asked = 0;
    private int wrong = 0;

    Check(String test) {
        this.test = test;
    }

    void due(String call, long got, long want) {
        asked++;
        if (got != want) {
            wrong++;
            System.out.println(test + ": " + call + " answered " + got + ", due is " + want);
        }
    }

    int wrongSoFar() {
        return wrong;
    }

    /** Ends the program, with exit code 1 if an answer was wrong. */
    void end() {
        System.out.println(test + ": " + asked + " answers, " + wrong + " wrong");
        if (wrong != 0) {
            System.exit(1);
        }
    }

    static void type(SlabYard yard, String text) {
        for (int i = 0; i < text.length(); i++) {
            yard.type(text.charAt(i));
        }
    }

    /** A new object that has read this text. */
    static SlabYard told(String text) {
        SlabYard yard = new SlabYard();
        type(yard, text);
        if (yard.yard() < 0) {
            throw new IllegalArgumentException(text);
        }
        return yard;
    }
}
