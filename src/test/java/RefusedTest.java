/** Each reason for which a call is refused: that it is refused, and that nothing is changed by it. */
public final class RefusedTest {
    private static final Due DUE = new Due();

    public static void main(String[] args) {
        part();
        take();
        join();
        joinInItself();
        cut();
        except();
        change();
        judge();
        cheapest();
        questions();
        numbersAreNotUsed();
        DUE.end();
    }

    private static void part() {
        DUE.refused("part: 24 are there", Scene.FULL, "part 0 NONE NONE; part 0 1 NONE; part 0 1 2; part 7 6 5");
        DUE.refused("part: two alike", Scene.SMALL, "part 0 0 NONE; part 7 7 NONE; part 0 0 1; part 0 1 0; part 1 0 0; part 3 3 3");
        DUE.refused("part: c NONE if b is", Scene.SMALL, "part 0 NONE 1; part 1 NONE 0; part 0 NONE 0; part 0 NONE 8; part 0 NONE -2");
        DUE.refused("part: no such LICENCES", Scene.SMALL, "part NONE NONE NONE; part NONE 0 1; part 0 8 1; part 0 -2 1; part 0 1 -2");
    }

    private static void take() {
        DUE.refused("take: it has TAKEN that: the first", Scene.of("part 5 6 7"), "take 0 0");
        DUE.refused("take: it has TAKEN that: the second", Scene.of("part 5 6 7; take 0 1"), "take 0 1");
        DUE.refused("take: it has TAKEN that: the third", Scene.of("part 5 6 7; take 0 2"), "take 0 2");
        DUE.refused("take: it has TAKEN that: the only one", Scene.of("part 5 NONE NONE; part 0 1 2"), "take 0 0; take 1 0");
        DUE.refused("take: no such CHOICE", Scene.of("part 5 6 NONE; part 0 1 2; take 0 1"), "take 0 2; take 0 3; take 0 -1");
        // NONE is no licence that the empty places of a row could bring.
        DUE.refused("take: no such CHOICE", Scene.of("part 5 NONE NONE; part 0 NONE NONE"), "take 0 1; take 0 2; take 0 3; take 1 1");
        Scene judged = Scene.of("asks 0 1 15 15; part 0 1 NONE; judge 0");
        DUE.is("judge takes the second", judged.make().look(0, 0), 1);
        DUE.refused("take: it has TAKEN that, when it judged", judged, "take 0 1");
    }

    private static void join() {
        DUE.refused("join: there is a JOIN from a to b", Scene.SMALL, "join 1 0 1; join 1 0 0; join 1 0 2; join 1 0 3; join 5 0 0; join 5 4 2");
        DUE.refused("join: 40 were told", Scene.FULL, "join 23 0 0; join 22 1 1; join 20 0 3; join 5 0 0");
        DUE.refused("join: 40 were told, of which some are CUT", Scene.FULL.then("cut 0; cut 22; cut 39"), "join 1 0 1; join 23 11 3; join 23 20 0; join 23 0 0");
        DUE.refused("join: no such PARTS", Scene.SMALL, "join 6 0 0; join 0 6 0; join -1 0 0; join 0 -1 0; join 23 0 0; join 0 23 0");
        DUE.refused("join: no such KIND", Scene.SMALL, "join 5 1 4; join 5 1 -1; join 5 1 MIN; join 5 1 MAX");
        DUE.refused("join: several reasons at once", Scene.FULL, "join 0 0 0; join 0 23 0; join 1 0 1; join 24 24 4; join -1 -1 -1");
    }

    private static void joinInItself() {
        DUE.refused("join: b would be IN itself: a is b", Scene.SMALL, "join 0 0 0; join 3 3 3; join 5 5 0");
        DUE.refused("join: b would be IN itself through two", Scene.SMALL, "join 0 1 1; join 1 2 0; join 4 5 0; join 0 5 2");
        DUE.refused("join: b would be IN itself through several", Scene.SMALL, "join 0 2 0; join 0 4 0; join 1 5 3; join 1 4 0; join 2 5 0; join 0 3 0");
        // Circles of every length, through all the parts at most; each kind of join counts.
        for (int top = 0; top < 24; top += 23)
            for (int length = 1; length <= 24; length++) {
                StringBuilder all = new StringBuilder();
                for (int p = 0; p < 24; p++) all.append("part 0 NONE NONE;");
                for (int k = 1; k < length; k++) all.append(Scene.row("join", Math.abs(top - k), Math.abs(top - k + 1), k % 4));
                int bottom = Math.abs(top - length + 1);
                String circle = Scene.row("join", top, bottom, length % 4);
                if (length % 6 == 0 || length < 3) DUE.refused("no PART may be IN itself through several", Scene.of(all.toString()), circle);
                TermsDesk x = Scene.of(all.toString()).make();
                DUE.go(x, "no PART may be IN itself through " + length, circle.replace(";", "= NONE"), "count 1 = " + (length - 1));
            }
    }

    private static void cut() {
        DUE.refused("cut: there is none such any more", Scene.SMALL, "cut 6");
        DUE.refused("cut: there is none such", Scene.SMALL, "cut 7; cut 39; cut 40; cut -1; cut 64; cut 32; cut 70; cut MIN; cut MAX");
        Scene again = Scene.of("part 0 NONE NONE; part 1 NONE NONE; join 1 0 0; cut 0; join 1 0 0");
        DUE.refused("cut: the number of one that is gone, though the PARTS are joined again", again, "cut 0; cut 2");
        DUE.refused("cut: 39 of 40", Scene.FULL.then("cut 39; cut 0"), "cut 39; cut 0; cut 40");
    }

    private static void except() {
        DUE.refused("except: it was told", Scene.SMALL, "except 3 1 0; except 4 7 7");
        DUE.refused("except: it was told, of highest numbers", Scene.FULL, "except 23 7 7; except 0 0 0; except 7 7 0");
        Scene other = Scene.of("part 0 1 NONE; except 0 0 3; take 0 1");
        DUE.refused("except: it was told, though another LICENCE is TAKEN", other, "except 0 0 3");
        DUE.steps("except: it was told of that only", "part 0 NONE NONE; part 0 NONE NONE; except 0 3 3 = true",
            "except 1 3 3 = true; except 0 4 3 = true; except 0 2 3 = true; except 0 3 4 = true; except 0 3 2 = true; except 0 3 3 = false");
    }

    private static void change() {
        DUE.refused("change: 10 are there", Scene.FULL, "change 0 0 0 0; change 1 0 0 0; change 0 23 7 100000; change 1 39 0 100000");
        DUE.refused("change: no such what", Scene.SMALL, "change -1 0 0 0; change 2 0 0 0; change 3 0 0 0; change MIN 0 0 0; change MAX 0 0 0");
        DUE.refused("change: no such PART", Scene.SMALL, "change 0 6 0 0; change 0 -1 0 0; change 0 24 0 0");
        DUE.refused("change: no such LICENCE", Scene.SMALL, "change 0 0 8 0; change 0 0 -1 0; change 0 0 MIN 0; change 0 0 MAX 0");
        DUE.refused("change: no such JOIN was told", Scene.SMALL, "change 1 7 0 0; change 1 -1 0 0; change 1 40 0 0");
        DUE.refused("change: no such price", Scene.SMALL, "change 0 0 0 -1; change 0 0 0 100001; change 1 0 0 -1; change 1 0 0 100001");
    }

    /** The last of the parts makes it 8748 ways: then what was taken by hand stays. */
    private static void judge() {
        StringBuilder all = new StringBuilder("asks 0 1 15 15; asks 1 1 15 15; asks 3 1 15 15; bars 0 2; bars 4 2;");
        for (int p = 0; p < 9; p++) all.append(p < 7 ? "part 0 1 2;" : "part 3 4 NONE;");
        for (int p = 1; p < 9; p++) all.append(Scene.row("join", p, 0, 0));
        for (int p = 0; p < 9; p++) all.append(Scene.row("take", p, 1));
        Scene many = Scene.of(all.toString());
        DUE.is("ways", many.make().count(6), TermsDesk.NONE);
        DUE.refused("judge: more than 6561 ways (nothing is taken)", many, "judge 0; judge 1; judge 2; judge 3");
        DUE.refused("judge: no such s", many.then("cut 7"), "judge 4; judge -1; judge MIN; judge MAX");
        DUE.refused("judge: no PARTS", Scene.of("asks 0 0 15 15; bars 0 255"), "judge 0; judge 3");
    }

    private static void cheapest() {
        Scene quarrel = Scene.of("asks 1 1 7 15; bars 0 2; part 0 NONE NONE; part 1 2 NONE; join 1 0 0");
        DUE.refused("cheapest: none ends all QUARRELS: there are no CHANGES", quarrel, "cheapest 0; cheapest 1; cheapest 2");
        DUE.refused("cheapest: none ends all QUARRELS", quarrel.then("change 0 0 0 0; change 0 1 1 5"), "cheapest 0; cheapest 1; cheapest 2");
        DUE.refused("cheapest: no such s", quarrel.then("change 0 1 2 5; change 1 0 0 7"), "cheapest 4; cheapest -1; cheapest MIN; cheapest MAX");
        DUE.is("by 3 there is no quarrel", quarrel.make().cheapest(3), 0);
    }

    private static void questions() {
        DUE.refused("come: no such ones", Scene.SMALL, "come 4 0 0; come 0 6 0; come 0 0 8; come -1 0 0; come 0 -1 0; come 0 0 -1");
        DUE.refused("way: there is none such", Scene.SMALL, "way 0 6 0 0 0; way 0 0 1 0 0; way 1 7 0 4 0; way 0 0 0 6 0; way 0 0 0 0 -1");
        DUE.refused("way: there is none such when it is lifted", Scene.SMALL, "way 0 1 0 3 0; way 3 7 7 4 0");
        DUE.refused("quarrel, notice, differ: there is none such", Scene.SMALL, "quarrel 0 99; quarrel 0 -1; notice 0 6; notice 0 -1; differ 0 0 0; differ 0 1 6");
    }

    /** What was refused takes no number: the next one gets the one that is due. */
    private static void numbersAreNotUsed() {
        DUE.steps("a call that is refused changes nothing: numbers of PARTS",
            "part 8 NONE NONE = NONE; part 0 0 NONE = NONE; part 0 NONE NONE = 0; part 0 NONE 1 = NONE; part 1 NONE NONE = 1; count 0 = 2");
        DUE.steps("a call that is refused changes nothing: numbers of JOINS",
            "part 0 NONE NONE; part 0 NONE NONE; part 0 NONE NONE; join 0 0 0 = NONE; join 1 0 4 = NONE; join 1 0 0 = 0; join 0 1 0 = NONE",
            "join 1 0 0 = NONE; join 3 0 0 = NONE; join 2 0 0 = 1; count 1 = 2; count 2 = 2");
        DUE.steps("a call that is refused changes nothing: numbers of CHANGES",
            "part 0 NONE NONE; change 1 0 0 0 = NONE; change 0 0 8 0 = NONE; change 0 0 1 5 = 0; change 0 0 1 100001 = NONE; change 0 0 1 7 = 1",
            "count 4 = 2; price 3 = 12; price 4 = NONE");
    }
}
