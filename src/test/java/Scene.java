import java.util.ArrayList;
import java.util.List;

/**
 * A run of calls that is made anew, on a new object, as often as it is asked for: so everything that follows from it
 * can be asked, also what only an undone call, an image that is back or a text that is read shows.
 */
final class Scene {
    /** One call, and what it answers. */
    interface Call {
        long on(SlabYard yard);
    }

    private final List<Call> calls;

    private Scene(List<Call> calls) {
        this.calls = calls;
    }

    static Scene fresh() {
        return new Scene(List.of());
    }

    /** A new object that has read this text. */
    static Scene told(String text) {
        return fresh().read(text);
    }

    Scene then(Call call) {
        List<Call> more = new ArrayList<>(calls);
        more.add(call);
        return new Scene(more);
    }

    Scene times(int times, Call call) {
        Scene scene = this;
        for (int i = 0; i < times; i++) {
            scene = scene.then(call);
        }
        return scene;
    }

    Scene type(String text) {
        Scene scene = this;
        for (char c : text.toCharArray()) {
            scene = scene.then(yard -> yard.type(c));
        }
        return scene;
    }

    Scene read(String text) {
        return type(text).then(SlabYard::yard);
    }

    SlabYard made() {
        SlabYard yard = new SlabYard();
        for (Call call : calls) {
            call.on(yard);
        }
        return yard;
    }

    /**
     * A yard in which no part is as at first: slabs of today and of yesterday, seven steps to be undone, both images
     * kept, cells seen, a text begun.
     */
    static Scene busy() {
        return told("w3;r2 5 3;r4 1 6;r3 3 2;r8 0 7;l2 1;d1 3;o2 3;s1 2 2 9;")
            .then(yard -> yard.lays(3, 0, 0))
            .then(yard -> yard.lays(1, 0, 1))
            .then(SlabYard::day)
            .then(yard -> yard.keep(0))
            .then(yard -> yard.lays(2, 2, 2))
            .then(yard -> yard.raises(0, 2, 9))
            .then(yard -> yard.lays(3, 0, 3))
            .then(yard -> yard.lifts(0, 3))
            .then(yard -> yard.keep(1))
            .then(yard -> yard.saw(1, 1))
            .then(yard -> yard.saw(1, 0))
            .then(yard -> yard.mark(4, 1, 1))
            .type("w2;r1 2;l1 0;");
    }

    /** All that the object would answer now and after what may be called next. */
    List<String> everything() {
        List<String> all = new ArrayList<>();
        ask("now: ", made(), all);
        undone("undone: ", this, all);
        for (int image = 0; image < 2; image++) {
            int which = image;
            long days = made().back(which);
            all.add("back " + which + " = " + days);
            if (days >= 0) {
                undone("as image " + which + " has it: ", then(yard -> yard.back(which)), all);
            }
        }
        all.add("yard = " + made().yard());
        ask("the text read: ", then(SlabYard::yard).made(), all);
        all.add("forget = " + made().forget());
        ask("forgotten: ", then(SlabYard::forget).made(), all);
        return all;
    }

    /** Step by step, until nothing more may be undone. */
    private static void undone(String when, Scene from, List<String> all) {
        Scene scene = from;
        for (int steps = 0; steps <= 11; steps++) {
            ask(when + steps + ": ", scene.made(), all);
            long left = scene.made().undo();
            all.add(when + steps + ": undo = " + left);
            if (left < 0) {
                return;
            }
            scene = scene.then(SlabYard::undo);
        }
    }

    /** All that can be asked at once. */
    static void ask(String when, SlabYard yard, List<String> all) {
        for (int what = 0; what <= 7; what++) {
            all.add(when + "now " + what + " = " + yard.now(what));
        }
        for (int what = 0; what <= 5; what++) {
            all.add(when + "count " + what + " = " + yard.count(what));
        }
        for (int size = 0; size <= 3; size++) {
            all.add(when + "stock " + size + " = " + yard.stock(size));
        }
        for (int what = 0; what <= 2; what++) {
            all.add(when + "mend " + what + " = " + yard.mend(what));
        }
        for (int c = -1; c <= 15; c++) {
            all.add(when + "plan " + c + " = " + yard.plan(c));
        }
        all.add(when + "from = " + yard.from());
        all.add(when + "trace = " + yard.trace());
        for (int number = 0; number <= 15; number++) {
            askCell(when, yard, number % 4, number / 4, all);
        }
    }

    private static void askCell(String when, SlabYard yard, int x, int y, List<String> all) {
        String where = when + x + " " + y + " ";
        for (int what = 0; what <= 4; what++) {
            all.add(where + "cell " + what + " = " + yard.cell(x, y, what));
        }
        all.add(where + "ends = " + yard.drop(x, y, 0));
        all.add(where + "steps = " + yard.drop(x, y, 1));
        all.add(where + "feeds = " + yard.feeds(x, y));
        all.add(where + "barrow = " + yard.barrow(x, y));
    }
}
