import java.util.ArrayList;
import java.util.List;

/** Calls that make a desk, as often as one is wanted: each of them must be taken. */
final class Scene {
    static final Scene EMPTY = of("");

    /** Parts 0 to 5 of a product that is part 0; joins 0 to 6, of which 6 was cut; changes 0 to 2. */
    static final Scene SMALL = of(
        "asks 0 0 15 15; asks 1 0 3 9; asks 1 1 5 2; asks 2 7 10 15; asks 3 3 15 1; asks 7 0 1 15; asks 7 7 8 8",
        "bars 0 130; bars 2 3; bars 3 129; bars 7 255",
        "part 2 NONE NONE; part 1 2 NONE; part 0 3 7; part 1 NONE NONE; part 7 0 1; part 3 1 NONE",
        "join 1 0 1; join 2 1 0; join 3 1 1; join 4 2 3; join 5 4 0; join 5 0 2; join 3 0 1; cut 6",
        "take 2 1; except 3 1 0; except 4 7 7",
        "change 0 3 0 50; change 1 0 0 60; change 1 6 0 5");

    /** 24 parts, 40 joins told that are all there, 10 changes, 6561 ways. */
    static final Scene FULL = of(fullTerms(), fullParts(), fullJoins(), fullChanges());

    private final List<Call> calls;
    private List<Integer> state;

    private Scene(List<Call> calls) {
        this.calls = calls;
    }

    static Scene of(String... rows) {
        return new Scene(Call.all(String.join(";", rows)));
    }

    Scene then(String rows) {
        List<Call> longer = new ArrayList<>(calls);
        longer.addAll(Call.all(rows));
        return new Scene(longer);
    }

    List<Call> calls() {
        return calls;
    }

    TermsDesk make() {
        TermsDesk x = new TermsDesk();
        for (Call call : calls)
            if (call.isRefusal(call.on(x))) throw new IllegalStateException(call + " was refused in a scene");
        return x;
    }

    Model makeModel() {
        Model x = new Model();
        for (Call call : calls)
            if (call.isRefusal(call.on(x))) throw new IllegalStateException(call + " was refused in a scene");
        return x;
    }

    /** All that the desk of this scene tells of itself. */
    List<Integer> state() {
        if (state == null) state = State.of(this, List.of());
        return state;
    }

    private static String fullTerms() {
        StringBuilder all = new StringBuilder();
        for (int l = 0; l < 8; l++) {
            for (int d = 0; d < 8; d++) all.append(row("asks", l, d, (5 * l + 3 * d) % 16, 15 - (l + d) % 4));
            all.append(row("bars", l, 255 & 37 * l + 11));
        }
        return all.toString();
    }

    private static String fullParts() {
        StringBuilder all = new StringBuilder();
        for (int p = 0; p < 24; p++)
            all.append(p % 3 == 1 ? row("part", p % 8, (p + 1) % 8, (p + 3) % 8) : row("part", p % 8, -1, -1));
        return all.append("take 4 1; take 10 2; except 7 7 0; except 23 7 7; except 0 0 0;").toString();
    }

    /** A tree of all parts, part 0 on top, and 17 joins across it. */
    private static String fullJoins() {
        StringBuilder all = new StringBuilder();
        for (int p = 1; p < 24; p++) all.append(row("join", p, (p - 1) / 2, p % 4));
        for (int p = 7; p < 24; p++) all.append(row("join", p, p - 3, (p + 1) % 4));
        return all.toString();
    }

    private static String fullChanges() {
        StringBuilder all = new StringBuilder();
        for (int c = 0; c < 10; c++)
            all.append(c % 2 == 0 ? row("change", 0, c / 4, c % 8, 1 << c) : row("change", 1, c / 2, 0, 100000 - c));
        return all.toString();
    }

    static String row(String name, int... args) {
        StringBuilder all = new StringBuilder(name);
        for (int a : args) all.append(' ').append(a);
        return all.append(';').toString();
    }
}
