import java.util.ArrayList;
import java.util.List;

/**
 * All that a desk tells of itself: what it answers when it is asked, and what it answers when it is
 * changed further, which shows what it holds but does not tell. An object is good for 512 calls
 * only, so the desk is made anew for every lot of questions.
 */
final class State {
    private static final int CALLS = 512;
    /** Room for the calls between: the lots must be alike, however many these are. */
    private static final int BETWEEN = 60;

    private final Scene scene;
    private final List<Call> between;
    private final int parts;
    private final List<Integer> answers = new ArrayList<>();

    private State(Scene scene, List<Call> between) {
        this.scene = scene;
        this.between = between;
        // The scene's own number, not that of a desk on which the calls between did something.
        this.parts = scene.make().count(0);
    }

    /** What the desk of a scene tells after some calls more. */
    static List<Integer> of(Scene scene, List<Call> between) {
        State all = new State(scene, between);
        all.asked();
        all.taken();
        all.excepted();
        all.judged();
        all.madeMore();
        return all.answers;
    }

    private TermsDesk desk() {
        TermsDesk x = scene.make();
        for (Call call : between) call.on(x);
        return x;
    }

    /** Questions in lots, each lot on a desk of its own, behind some calls that change it. */
    private void ask(String changes, List<Call> questions) {
        List<Call> first = Call.all(changes);
        int lot = CALLS - scene.calls().size() - BETWEEN - first.size();
        if (lot < 20 || between.size() > BETWEEN) throw new IllegalStateException("too many calls for one desk");
        for (int done = 0; done < questions.size(); done += lot) {
            TermsDesk x = desk();
            for (Call call : first) answers.add(call.on(x));
            for (Call call : questions.subList(done, Math.min(done + lot, questions.size()))) answers.add(call.on(x));
        }
    }

    private static Call call(String name, int... args) {
        return new Call(name, args);
    }

    private void asked() {
        List<Call> all = new ArrayList<>();
        for (int what = 0; what < 7; what++) all.add(call("count", what));
        for (int p = 0; p <= parts; p++) for (int what = 0; what < 8; what++) all.add(call("look", p, what));
        for (int c = 0; c <= 10; c++) all.add(call("price", 1 << c));
        all.add(call("price", 1023));
        for (int s = 0; s < 4; s++) {
            all.add(call("cheapest", s));
            for (int i = 0; i < 30; i++) all.add(call("quarrel", s, i));
            for (int i = 0; i <= parts; i++) all.add(call("notice", s, i));
            for (int i = 0; i <= parts; i++) all.add(call("differ", s, (s + 1) % 4, i));
            for (int k = 0; k < 192; k++) all.add(call("way", s, k % 64 / 8, k % 8, 0, k / 64));
        }
        all.addAll(come());
        ask("", all);
    }

    private List<Call> come() {
        List<Call> all = new ArrayList<>();
        for (int s = 0; s < 4; s++) {
            all.add(call("quarrels", s));
            for (int p = 0; p < parts; p++) for (int l = 0; l < 8; l++) all.add(call("come", s, p, l));
        }
        return all;
    }

    /** With other choices taken the terms of other licences show; with all barred, what comes. */
    private void taken() {
        for (int i = 0; i < 3; i++) {
            StringBuilder takes = new StringBuilder();
            for (int p = 0; p < parts; p++) takes.append(Scene.row("take", p, i));
            ask(takes.toString(), come());
        }
        List<Call> products = new ArrayList<>();
        for (int p = 0; p <= parts; p++) {
            products.add(call("product", p));
            for (int s = 0; s < 4; s++) products.add(call("quarrels", s));
            products.add(call("count", 3));
        }
        ask("", products);
    }

    private void excepted() {
        List<Call> all = new ArrayList<>();
        for (int p = 0; p < parts; p++) for (int k = 0; k < 64; k++) all.add(call("except", p, k / 8, k % 8));
        ask("", all);
    }

    private void judged() {
        List<Call> looks = new ArrayList<>();
        for (int p = 0; p < parts; p++) looks.add(call("look", p, 0));
        for (int s = 0; s < 4; s++) ask(Scene.row("judge", s), looks);
    }

    /** New parts of every licence show its terms; joins, cuts and changes show what is there. */
    private void madeMore() {
        List<Call> come = new ArrayList<>();
        for (int l = 0; l < 8; l++) for (int s = 0; s < 4; s++) come.add(call("come", s, parts, l));
        for (int s = 0; s < 4; s++) come.add(call("quarrels", s));
        for (int l = 0; l < 8; l++)
            for (int k = 0; k < 4; k++)
                ask(Scene.row("part", l, -1, -1) + Scene.row("join", 0, parts, k) + Scene.row("product", parts), come);
        List<Call> ends = new ArrayList<>();
        for (int p = 0; p < parts; p++) {
            ends.add(call("join", p, 0, 0));
            ends.add(call("join", 0, p, 0));
        }
        for (int j = 0; j <= 40; j++) {
            ends.add(call("cut", j));
            ends.add(call("join", parts - 1, 0, 1));
        }
        for (int c = 0; c <= 10; c++) ends.add(call("change", 0, 0, 0, 1));
        for (int p = 0; p <= 24; p++) ends.add(call("part", 0, -1, -1));
        ask("", ends);
    }
}
