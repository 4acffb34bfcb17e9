import java.util.List;

/** Counts the answers that are not as due; a test ends with end(). */
final class Due {
    private int asked = 0;
    private int wrong = 0;

    void is(String call, int got, int want) {
        asked++;
        if (got == want) return;
        wrong++;
        if (wrong <= 40) System.out.println(call + " answered " + got + ", due is " + want);
    }

    void holds(String what, boolean so) {
        is(what, so ? 1 : 0, 1);
    }

    /**
     * Steps on a new desk for one sentence of the document: "come 0 1 7 = 128" tells the answer that
     * is due; a step without '=' must only not be refused.
     */
    TermsDesk steps(String sentence, String... rows) {
        TermsDesk x = new TermsDesk();
        go(x, sentence, rows);
        return x;
    }

    void go(TermsDesk x, String sentence, String... rows) {
        for (String row : rows)
            for (String step : row.split(";")) if (!step.isBlank()) step(x, sentence, step);
    }

    private void step(TermsDesk x, String sentence, String step) {
        String[] sides = step.split("=");
        Call call = Call.of(sides[0]);
        int got = call.on(x);
        String told = "'" + sentence + "': " + call;
        if (sides.length == 2) is(told, got, Call.number(sides[1].trim()));
        else holds(told + " is taken", !call.isRefusal(got));
    }

    /** The calls are refused, each one on a desk of its own, and change nothing. */
    void refused(String sentence, Scene scene, String calls) {
        for (Call call : Call.all(calls)) refused(sentence, scene, List.of(call));
    }

    /** The same for many calls at once: each is refused, and one behind the other they change nothing. */
    void refused(String sentence, Scene scene, List<Call> calls) {
        for (Call call : calls) is("'" + sentence + "': " + call, call.on(scene.make()), call.refusal());
        holds("'" + sentence + "': nothing is changed by " + calls, scene.state().equals(State.of(scene, calls)));
    }

    void end() {
        System.out.println(wrong == 0 ? "all " + asked + " answers are as due" : wrong + " answers are not as due");
        if (wrong != 0 || asked == 0) System.exit(1);
    }
}
