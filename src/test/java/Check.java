import java.util.List;

/** Counts and prints the answers that are not as due. */
final class Check {
    private final String test;
    private int asked = 0;
    private int wrong = 0;

    Check(String test) {
        this.test = test;
    }

    void due(String call, long got, long want) {
        asked++;
        if (got != want) {
            wrong++;
            System.out.println(test + ": " + call + " answered " + got + ", due is " + want);
        }
    }

    /** The call has this answer, and everything is as it was without it. */
    void changesNothing(String what, Scene scene, Scene.Call call, long want) {
        due(what, call.on(scene.made()), want);
        same(what, scene.then(call), scene);
    }

    /** Nothing tells the one scene from the other. */
    void same(String what, Scene scene, Scene wanted) {
        same(what, scene.everything(), wanted.everything());
    }

    void same(String what, List<String> answers, List<String> wanted) {
        due(what + ": how much there is to ask then", answers.size(), wanted.size());
        for (int i = 0; i < Math.min(answers.size(), wanted.size()); i++) {
            boolean same = answers.get(i).equals(wanted.get(i));
            due(what + ": then '" + answers.get(i) + "' for '" + wanted.get(i) + "', the same", same ? 1 : 0, 1);
        }
    }

    int wrongSoFar() {
        return wrong;
    }

    /** Ends the program, with exit code 1 if an answer was wrong. */
    void end() {
        System.out.println(test + ": " + asked + " answers, " + wrong + " wrong");
        if (wrong != 0) {
            System.exit(1);
        }
    }

    static void type(SlabYard yard, String text) {
        for (int i = 0; i < text.length(); i++) {
            yard.type(text.charAt(i));
        }
    }

    /** A new object that has read this text. */
    static SlabYard told(String text) {
        SlabYard yard = new SlabYard();
        type(yard, text);
        if (yard.yard() < 0) {
            throw new IllegalArgumentException(text);
        }
        return yard;
    }
}
