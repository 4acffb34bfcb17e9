import java.util.ArrayList;
import java.util.List;

/**
 * Every number that a call asks for: the least and the greatest that is taken (and all between, if
 * they are few), the ones just outside, the least and the greatest int. What is refused changes nothing.
 */
public final class BoundsTest {
    private static final Due DUE = new Due();
    private static final int NONE = TermsDesk.NONE;
    private static final int LOW = Integer.MIN_VALUE;
    private static final int HIGH = Integer.MAX_VALUE;
    /** A desk that is full but for one part, one join and one change. */
    private static final Scene ROOM = roomForOne();

    public static void main(String[] args) {
        asks();
        bars();
        part();
        take();
        join();
        cut();
        except();
        product();
        change();
        come();
        quarrels();
        judgeAndCheapest();
        price();
        way();
        noticeAndDiffer();
        look();
        count();
        DUE.end();
    }

    /** Argument k of a call may be lo to hi, on a desk as that of the scene. */
    private static void range(String sentence, Scene scene, String text, int k, int lo, int hi) {
        Call call = Call.of(text);
        for (int v = lo; v <= hi; v++) if (v - lo < 300 || hi - v < 300) taken(sentence, scene, call.with(k, v));
        List<Integer> outside = new ArrayList<>(List.of(LOW, LOW + 1, lo - 1, hi + 1, HIGH - 1, HIGH));
        // Numbers that a shift or a cast would take for one inside.
        for (int round : new int[] {8, 16, 32, 64, 256, 65536, 1 << 30}) {
            if (lo + round > hi + 1) outside.add(lo + round);
            if (hi - round < lo - 1) outside.add(hi - round);
        }
        wrong(sentence, scene, call, k, outside);
    }

    private static void taken(String sentence, Scene scene, Call call) {
        DUE.holds("'" + sentence + "': " + call + " is taken", !call.isRefusal(call.on(scene.make())));
    }

    private static void wrong(String sentence, Scene scene, Call call, int k, List<Integer> values) {
        for (int v : values) DUE.refused(sentence, scene, List.of(call.with(k, v)));
    }

    private static void wrong(String sentence, Scene scene, String text, int k, Integer... values) {
        wrong(sentence, scene, Call.of(text), k, List.of(values));
    }

    private static Scene roomForOne() {
        StringBuilder all = new StringBuilder();
        for (int p = 0; p < 23; p++) all.append(p == 22 ? "part 5 6 7;" : "part 0 NONE NONE;");
        for (int p = 1; p < 23; p++) all.append(Scene.row("join", p, p - 1, p % 4));
        for (int p = 4; p < 21; p++) all.append(Scene.row("join", p, p - 2, p % 4));
        for (int c = 0; c < 9; c++) all.append("change 0 0 0 100000;");
        return Scene.of(all.toString());
    }

    private static void asks() {
        for (Scene scene : List.of(Scene.EMPTY, Scene.SMALL, Scene.FULL)) {
            range("LICENCES 0 to 7", scene, "asks 0 7 15 15", 0, 0, 7);
            range("ASK (0 to 7", scene, "asks 7 0 15 15", 1, 0, 7);
            range("LICENCE l tells of ASK d SHIPPINGS (bits, 0 to 15)", scene, "asks 7 7 0 0", 2, 0, 15);
            range("LICENCE l tells of ASK d KINDS (bits, 0 to 15)", scene, "asks 7 7 15 0", 3, 0, 15);
        }
        DUE.refused("asks: all of them wrong", Scene.SMALL, "asks MIN MIN MIN MIN; asks MAX MAX MAX MAX; asks -1 -1 -1 -1; asks 8 8 16 16");
    }

    private static void bars() {
        for (Scene scene : List.of(Scene.EMPTY, Scene.SMALL, Scene.FULL)) {
            range("LICENCES 0 to 7", scene, "bars 0 255", 0, 0, 7);
            range("LICENCE l BARS ASKS (bits, 0 to 255)", scene, "bars 7 0", 1, 0, 255);
        }
        DUE.refused("bars: both wrong", Scene.SMALL, "bars MIN MIN; bars MAX MAX; bars -1 -1; bars 8 256");
    }

    private static void part() {
        for (Scene scene : List.of(Scene.EMPTY, Scene.SMALL, ROOM)) {
            range("a PART with CHOICES a", scene, "part 0 NONE NONE", 0, 0, 7);
            range("a PART with CHOICES a, b (NONE: none)", scene, "part 7 0 NONE", 1, NONE, 6);
            range("a PART with CHOICES a, b, c (NONE: none)", scene, "part 7 6 0", 2, NONE, 5);
        }
        wrong("a PART with CHOICES a", Scene.SMALL, "part 0 1 2", 0, LOW, -2, -1, 1, 2, 8, HIGH);
        wrong("a PART with CHOICES a, b", Scene.SMALL, "part 7 0 1", 1, LOW, -2, -1, 1, 7, 8, HIGH);
        wrong("a PART with CHOICES a, b, c", Scene.SMALL, "part 7 0 1", 2, LOW, -2, 0, 7, 8, HIGH);
        everyRowOfChoices();
    }

    private static void everyRowOfChoices() {
        List<Call> wrong = new ArrayList<>();
        for (int a = -2; a < 9; a++)
            for (int b = -2; b < 9; b++)
                for (int c = -2; c < 9; c++) {
                    Call call = new Call("part", new int[] {a, b, c});
                    if (isRow(a, b, c)) taken("one to three CHOICES (all different)", Scene.EMPTY, call);
                    else wrong.add(call);
                }
        DUE.is("rows of one to three different LICENCES", 11 * 11 * 11 - wrong.size(), 8 + 8 * 7 + 8 * 7 * 6);
        for (int done = 0; done < wrong.size(); done += 50)
            DUE.refused("NONE: no such LICENCES, two alike", Scene.EMPTY, wrong.subList(done, Math.min(done + 50, wrong.size())));
    }

    private static boolean isRow(int a, int b, int c) {
        boolean licences = a >= 0 && a < 8 && b < 8 && c < 8 && b >= NONE && c >= NONE;
        if (b == NONE) return licences && c == NONE;
        return licences && a != b && a != c && b != c;
    }

    private static void take() {
        Scene empty = Scene.EMPTY;
        wrong("take: no such PART", empty, "take 0 0", 0, LOW, -1, 0, 1, 23, 24, HIGH);
        range("PART p takes its i-th CHOICE", Scene.of("part 0 1 NONE; part 0 1 NONE; part 0 1 NONE"), "take 0 1", 0, 0, 2);
        range("PART p takes its i-th CHOICE (0 to 2)", Scene.of("part 5 6 7"), "take 0 1", 1, 1, 2);
        range("PART p takes its i-th CHOICE (0 to 2)", Scene.of("part 5 6 7; take 0 2"), "take 0 0", 1, 0, 1);
        range("PART p takes its i-th CHOICE: of two", Scene.of("part 5 6 NONE"), "take 0 1", 1, 1, 1);
        range("PART p takes its i-th CHOICE: of two", Scene.of("part 5 6 NONE; part 7 0 1; take 0 1"), "take 0 0", 1, 0, 0);
        wrong("PART p takes its i-th CHOICE: there is one", Scene.of("part 5 NONE NONE; part 7 0 1"), "take 0 0", 1, LOW, -1, 0, 1, 2, 3, HIGH);
        wrong("take: no such PART", Scene.SMALL, "take 0 1", 0, LOW, -1, 6, 23, 24, HIGH);
        wrong("take: no such PART", Scene.FULL, "take 0 1", 0, LOW, -1, 24, 25, 32, HIGH);
    }

    private static void join() {
        wrong("join: no such PARTS", Scene.EMPTY, "join 0 0 0", 0, LOW, -1, 0, 1, HIGH);
        Scene four = Scene.of("part 0 NONE NONE; part 1 NONE NONE; part 2 NONE NONE; part 3 NONE NONE");
        range("PART a is IN PART b", four, "join 0 3 0", 0, 0, 2);
        range("PART a is IN PART b", four, "join 3 0 0", 0, 1, 3);
        range("PART a is IN PART b", four, "join 0 1 0", 1, 1, 3);
        range("PART a is IN PART b", four, "join 3 0 0", 1, 0, 2);
        range("KINDS 0 to 3", four, "join 1 0 0", 2, 0, 3);
        range("KINDS 0 to 3", Scene.SMALL, "join 5 1 0", 2, 0, 3);
        range("KINDS 0 to 3", ROOM, "join 22 0 0", 2, 0, 3);
        wrong("join: no such PARTS", ROOM, "join 22 0 0", 0, LOW, -1, 23, 24, HIGH);
        wrong("join: no such PARTS", ROOM, "join 22 0 0", 1, LOW, -1, 23, 24, HIGH);
    }

    private static void cut() {
        wrong("cut: there is none such", Scene.EMPTY, "cut 0", 0, LOW, -1, 0, 1, 39, 40, HIGH);
        range("a JOIN is CUT", Scene.SMALL, "cut 0", 0, 0, 5);
        range("JOINS 0 to 39", ROOM, "cut 0", 0, 0, 38);
        range("JOINS 0 to 39", Scene.FULL, "cut 0", 0, 0, 39);
    }

    private static void except() {
        wrong("except: no such PART", Scene.EMPTY, "except 0 0 0", 0, LOW, -1, 0, 1, HIGH);
        for (int p = 0; p < 24; p += 23) {
            Scene full = Scene.FULL;
            String call = p == 0 ? "except 0 1 1" : "except 23 6 6";
            range("an EXCEPTION for PART p", full, call, 0, 0, 23);
            range("an EXCEPTION of ASK d of LICENCE l", full, call, 1, 0, 7);
            range("an EXCEPTION of ASK d of LICENCE l", full, call, 2, 0, 7);
        }
        range("an EXCEPTION for PART p", Scene.SMALL, "except 0 7 1", 0, 0, 5);
        DUE.refused("except: all wrong", Scene.SMALL, "except MIN MIN MIN; except MAX MAX MAX; except -1 -1 -1; except 6 8 8");
    }

    private static void product() {
        wrong("product: no such PART", Scene.EMPTY, "product 0", 0, LOW, -1, 0, 1, 23, 24, HIGH);
        range("THE PRODUCT", Scene.SMALL, "product 0", 0, 0, 5);
        range("THE PRODUCT", ROOM, "product 0", 0, 0, 22);
        range("THE PRODUCT", Scene.FULL, "product 0", 0, 0, 23);
    }

    private static void change() {
        DUE.refused("change: no such ones", Scene.EMPTY, "change 0 0 0 0; change 1 0 0 0; change 0 -1 0 0; change 1 -1 0 0");
        for (Scene scene : List.of(Scene.SMALL, ROOM)) {
            range("what 0, 1", scene, "change 0 0 0 0", 0, 0, 1);
            range("PART which gets LICENCE l", scene, "change 0 0 0 0", 1, 0, scene == ROOM ? 22 : 5);
            range("PART which gets LICENCE l", scene, "change 0 5 0 0", 2, 0, 7);
            range("JOIN which is CUT (one that was CUT already too)", scene, "change 1 0 0 0", 1, 0, scene == ROOM ? 38 : 6);
            range("at a price (0 to 100000)", scene, "change 0 0 0 0", 3, 0, 100000);
            range("at a price (0 to 100000)", scene, "change 1 0 0 0", 3, 0, 100000);
            for (int l : new int[] {LOW, -2, -1, 0, 7, 8, 9, HIGH})
                taken("l is not looked at", scene, new Call("change", new int[] {1, 0, l, 0}));
        }
        range("PARTS 0 to 23", fullButForOneChange(), "change 0 0 0 0", 1, 0, 23);
        range("JOINS 0 to 39", fullButForOneChange(), "change 1 0 0 0", 1, 0, 39);
    }

    private static Scene fullButForOneChange() {
        StringBuilder all = new StringBuilder();
        for (int p = 0; p < 24; p++) all.append("part 0 NONE NONE;");
        for (int p = 1; p < 24; p++) all.append(Scene.row("join", p, p - 1, 0));
        for (int p = 7; p < 24; p++) all.append(Scene.row("join", p, p - 2, 0));
        for (int c = 0; c < 9; c++) all.append("change 0 0 0 0;");
        return Scene.of(all.toString());
    }

    private static void come() {
        wrong("come: no such PART", Scene.EMPTY, "come 0 0 0", 1, LOW, -1, 0, 1, HIGH);
        for (Scene scene : List.of(Scene.SMALL, Scene.FULL)) {
            range("SHIPPINGS 0 to 3", scene, "come 0 0 0", 0, 0, 3);
            range("ASKS that have come to PART p", scene, "come 0 0 0", 1, 0, scene == Scene.FULL ? 23 : 5);
            range("ASKS of LICENCE l", scene, "come 0 0 0", 2, 0, 7);
        }
    }

    private static void quarrels() {
        for (Scene scene : List.of(Scene.EMPTY, Scene.SMALL, Scene.FULL)) range("NONE: no such s", scene, "quarrels 0", 0, 0, 3);
        for (Scene scene : List.of(Scene.SMALL, Scene.FULL))
            for (int s = 0; s < 4; s++) {
                int there = scene.make().quarrels(s);
                DUE.holds("a scene with quarrels", there > 0);
                range("the i-th QUARREL", scene, "quarrel " + s + " 0", 1, 0, there - 1);
            }
        range("the i-th QUARREL by SHIPPING s", Scene.SMALL, "quarrel 0 0", 0, 0, 3);
        range("the i-th QUARREL by SHIPPING s", Scene.FULL, "quarrel 0 0", 0, 0, 3);
    }

    private static void judgeAndCheapest() {
        for (Scene scene : List.of(Scene.SMALL, Scene.FULL)) range("TO JUDGE by s; NONE: no such s", scene, "judge 0", 0, 0, 3);
        Scene quiet = Scene.of("part 0 NONE NONE; part 0 NONE NONE; join 1 0 0; change 0 0 1 0");
        range("THE CHEAPEST by s; NONE: no such s", quiet, "cheapest 0", 0, 0, 3);
        range("THE CHEAPEST by s; NONE: no such s", Scene.EMPTY, "cheapest 0", 0, 0, 3);
        wrong("THE CHEAPEST by s; NONE: no such s", Scene.FULL, "cheapest 0", 0, LOW, -1, 4, HIGH);
        wrong("TO JUDGE; NONE: no PARTS", Scene.EMPTY, "judge 0", 0, LOW, -1, 0, 1, 2, 3, 4, HIGH);
    }

    private static void price() {
        range("the price of a set of CHANGES (bits)", Scene.EMPTY, "price 0", 0, 0, 0);
        range("the price of a set of CHANGES (bits)", Scene.SMALL, "price 0", 0, 0, 7);
        range("the price of a set of CHANGES (bits)", ROOM, "price 0", 0, 0, 511);
        range("the price of a set of CHANGES (bits)", Scene.FULL, "price 0", 0, 0, 1023);
        wrong("the price of a set of CHANGES: one of them is none", Scene.SMALL, "price 0", 0, 15, 9, 1024, 1 << 31 | 1, -8);
    }

    private static void way() {
        StringBuilder all = new StringBuilder("asks 7 7 15 15; asks 0 0 15 15;");
        for (int p = 0; p < 24; p++) all.append(p == 23 ? "part 7 NONE NONE;" : "part 0 NONE NONE;");
        for (int p = 1; p < 24; p++) all.append(Scene.row("join", p, p - 1, p % 4));
        Scene chain = Scene.of(all.toString());
        range("THE WAY by SHIPPING s", chain, "way 0 7 7 0 0", 0, 0, 3);
        range("THE WAY of ASK d of LICENCE l: it is brought by 7 alone", chain, "way 0 7 7 0 0", 1, 7, 7);
        range("THE WAY of ASK d of LICENCE l: 7 asks 7 alone", chain, "way 0 7 7 0 0", 2, 7, 7);
        range("THE WAY of ASK d of LICENCE l: 0 asks 0 alone", chain, "way 0 0 0 0 0", 2, 0, 0);
        range("THE WAY of ASK d of LICENCE l: it is brought by 0 alone", chain, "way 0 0 0 0 0", 1, 0, 0);
        range("THE WAY to PART p", chain, "way 0 7 7 0 0", 3, 0, 23);
        range("PART i of THE WAY: 24 PARTS", chain, "way 0 7 7 0 0", 4, 0, 23);
        range("PART i of THE WAY: one PART", chain, "way 0 7 7 23 0", 4, 0, 0);
        range("PART i of THE WAY: two PARTS", chain, "way 3 7 7 22 0", 4, 0, 1);
        wrong("THE WAY to PART p; NONE: there is none such", Scene.EMPTY, "way 0 0 0 0 0", 3, LOW, -1, 0, 1, HIGH);
    }

    private static void noticeAndDiffer() {
        StringBuilder all = new StringBuilder("asks 0 0 9 15;");
        for (int p = 0; p < 24; p++) all.append("part 0 NONE NONE;");
        for (int p = 1; p < 24; p++) all.append(Scene.row("join", p, 0, p % 4));
        Scene star = Scene.of(all.toString());
        range("the i-th of the PARTS of NOTICES: 24", star, "notice 0 0", 1, 0, 23);
        range("the i-th of the PARTS of NOTICES: 24", star, "notice 3 0", 1, 0, 23);
        wrong("the i-th of the PARTS of NOTICES: none by 1", star, "notice 1 0", 1, LOW, -1, 0, 1, 23, 24, HIGH);
        wrong("NOTICES by SHIPPING s", star, "notice 0 0", 0, LOW, -1, 1, 2, 4, HIGH);
        range("the i-th PART OF THE PRODUCT: 24", star, "differ 0 1 0", 2, 0, 23);
        range("the i-th PART OF THE PRODUCT: 24", star, "differ 2 3 0", 2, 0, 23);
        wrong("the i-th PART OF THE PRODUCT: like ASKS by 0 and 3", star, "differ 0 3 0", 2, LOW, -1, 0, 1, 23, 24, HIGH);
        range("by SHIPPINGS s and t", star, "differ 0 1 0", 1, 1, 2);
        range("by SHIPPINGS s and t", star, "differ 1 3 0", 0, 1, 2);
        wrong("by SHIPPINGS s and t", star, "differ 0 1 0", 0, LOW, -1, 1, 2, 4, HIGH);
        wrong("by SHIPPINGS s and t", star, "differ 1 0 0", 1, LOW, -1, 1, 2, 4, HIGH);
        wrong("notice, differ: no PARTS", Scene.EMPTY, "notice 0 0", 1, LOW, -1, 0, HIGH);
        wrong("notice, differ: no PARTS", Scene.EMPTY, "differ 0 1 0", 2, LOW, -1, 0, HIGH);
    }

    private static void look() {
        wrong("look: no such PART", Scene.EMPTY, "look 0 0", 0, LOW, -1, 0, 1, HIGH);
        range("of PART p", Scene.SMALL, "look 0 0", 0, 0, 5);
        range("of PART p", Scene.FULL, "look 0 0", 0, 0, 23);
        range("5 + i (to 7) its i-th CHOICE: of three", Scene.SMALL, "look 2 0", 1, 0, 7);
        range("5 + i (to 7) its i-th CHOICE: of two", Scene.SMALL, "look 1 0", 1, 0, 6);
        range("5 + i (to 7) its i-th CHOICE: of one", Scene.SMALL, "look 0 0", 1, 0, 5);
        range("NONE for others", Scene.FULL, "look 22 0", 1, 0, 7);
        // What would be taken if 5 were taken from it with a wrap-around.
        wrong("NONE for others", Scene.SMALL, "look 2 0", 1, LOW + 4, LOW + 5, LOW + 6, LOW + 7, HIGH - 4, -5, -4, -3, -2);
    }

    private static void count() {
        for (Scene scene : List.of(Scene.EMPTY, Scene.SMALL, Scene.FULL)) range("count: NONE for others", scene, "count 0", 0, 0, 6);
    }
}
