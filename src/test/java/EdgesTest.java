import java.util.ArrayList;
import java.util.List;

/**
 * Every call with every mixture of edges: the least int, -1, the least and the greatest number that
 * is taken, the one behind it, the greatest int; answer by answer against the plain Model.
 */
public final class EdgesTest {
    private static final Due DUE = new Due();
    /** Of each call the greatest number that each argument may be, on a full desk. */
    private static final String[] GREATEST = {
        "asks 7 7 15 15", "bars 7 255", "part 7 7 7", "take 23 2", "join 23 23 3", "cut 39", "except 23 7 7", "product 23",
        "change 1 39 7 100000", "come 3 23 7", "quarrels 3", "quarrel 3 20", "judge 3", "price 1023", "way 3 7 7 23 2",
        "notice 3 23", "differ 3 3 23", "look 23 7", "count 6"};
    /** The same on the small desk: parts 0 to 5, joins 0 to 6, changes 0 to 2. */
    private static final String[] GREATEST_SMALL = {
        "take 5 1", "join 5 1 3", "cut 5", "except 5 7 7", "product 5", "change 0 5 7 100000", "change 1 6 7 100000",
        "come 3 5 7", "quarrel 3 1", "cheapest 3", "price 7", "way 3 3 3 5 1", "notice 3 2", "differ 2 3 2", "look 5 6"};
    /** A new desk for so many calls: those that are taken change it. */
    private static final int LOT = 150;

    public static void main(String[] args) {
        for (Scene scene : List.of(Scene.EMPTY, Scene.SMALL, Scene.FULL))
            for (String text : GREATEST) mix(scene, Call.of(text));
        for (String text : GREATEST_SMALL) mix(Scene.SMALL, Call.of(text));
        mix(Scene.EMPTY, Call.of("cheapest 3"));
        DUE.end();
    }

    private static void mix(Scene scene, Call greatest) {
        List<Call> calls = new ArrayList<>(List.of(greatest));
        for (int k = 0; k < greatest.args().length; k++) calls = varied(calls, k, greatest.args()[k]);
        for (int done = 0; done < calls.size(); done += LOT) {
            TermsDesk x = scene.make();
            Model m = scene.makeModel();
            for (Call call : calls.subList(done, Math.min(done + LOT, calls.size()))) DUE.is("as the plain model: " + call, call.on(x), call.on(m));
        }
    }

    private static List<Call> varied(List<Call> calls, int k, int last) {
        List<Call> all = new ArrayList<>();
        for (Call call : calls)
            for (int v : new int[] {Integer.MIN_VALUE, -1, 0, last, last + 1, Integer.MAX_VALUE}) all.add(call.with(k, v));
        return all;
    }
}
