import java.util.List;

/** A new desk, before anything was told: what it answers, what it refuses, and that nothing is asked or barred. */
public final class EmptyDeskTest {
    private static final Due DUE = new Due();

    public static void main(String[] args) {
        counts();
        questions();
        changes();
        askNothing();
        barNothing();
        termsWithoutParts();
        firstPart();
        onlyRefusals();
        memoryIsItsOwn();
        DUE.end();
    }

    private static void counts() {
        DUE.steps("no PARTS", "count 0 = 0");
        DUE.steps("no JOINS told", "count 1 = 0");
        DUE.steps("no JOINS there", "count 2 = 0");
        DUE.steps("no PARTS OF THE PRODUCT without PARTS", "count 3 = 0");
        DUE.steps("no CHANGES", "count 4 = 0");
        DUE.steps("THE PRODUCT is a PART (0 at first)", "count 5 = 0");
        DUE.steps("one way to take CHOICES for no PARTS", "count 6 = 1");
        DUE.steps("NONE for others", "count 7 = NONE; count -1 = NONE; count MIN = NONE; count MAX = NONE");
    }

    private static void questions() {
        for (int s = 0; s < 4; s++) {
            DUE.steps("quarrels: (Without PARTS 0.)", "quarrels " + s + " = 0");
            DUE.steps("quarrel: there is none such", "quarrel " + s + " 0 = NONE");
            DUE.steps("judge: NONE: no PARTS", "judge " + s + " = NONE");
            DUE.steps("cheapest: no QUARREL with no CHANGE", "cheapest " + s + " = 0");
            DUE.steps("come: no such PART", "come " + s + " 0 0 = NONE");
            DUE.steps("way: there is none such", "way " + s + " 0 0 0 0 = NONE");
            DUE.steps("notice: there is none such", "notice " + s + " 0 = NONE");
            for (int t = 0; t < 4; t++) DUE.steps("differ: there is none such", "differ " + s + " " + t + " 0 = NONE");
        }
        DUE.steps("NONE: no such s, without PARTS too", "quarrels 4 = NONE; quarrels -1 = NONE; cheapest 4 = NONE; cheapest -1 = NONE");
        DUE.steps("the price of no CHANGES", "price 0 = 0; price 1 = NONE; price -1 = NONE; price MIN = NONE; price MAX = NONE");
        for (int what = 0; what < 8; what++) DUE.steps("look: no such PART", "look 0 " + what + " = NONE");
    }

    private static void changes() {
        DUE.refused("take: no such PART", Scene.EMPTY, "take 0 0; take 0 1; take 0 2; take 23 0");
        DUE.refused("join: no such PARTS", Scene.EMPTY, "join 0 1 0; join 1 0 0; join 0 0 0; join 23 22 3");
        DUE.refused("cut: there is none such", Scene.EMPTY, "cut 0; cut 39");
        DUE.refused("except: no such PART", Scene.EMPTY, "except 0 0 0; except 23 7 7");
        DUE.refused("product: no such PART, 0 neither", Scene.EMPTY, "product 0; product 1; product 23");
        DUE.refused("change: no such PART", Scene.EMPTY, "change 0 0 0 0; change 0 23 7 100000");
        DUE.refused("change: no such JOIN", Scene.EMPTY, "change 1 0 0 0; change 1 39 7 100000");
        DUE.refused("judge: no PARTS", Scene.EMPTY, "judge 0; judge 1; judge 2; judge 3");
    }

    private static void askNothing() {
        TermsDesk x = new TermsDesk();
        for (int l = 0; l < 8; l++) x.part(l, -1, -1);
        for (int l = 1; l < 8; l++) x.join(l, 0, l % 4);
        for (int l = 0; l < 8; l++) x.bars(l, 255);
        for (int s = 0; s < 4; s++) {
            for (int l = 0; l < 8; l++) {
                DUE.go(x, "LICENCES that ask nothing", "come " + s + " " + l + " " + l + " = 0", "come " + s + " 0 " + l + " = 0");
                for (int d = 0; d < 8; d++) DUE.is("LICENCES that ask nothing: way", x.way(s, l, d, 0, 0), TermsDesk.NONE);
            }
            DUE.go(x, "LICENCES that ask nothing", "quarrels " + s + " = 0; notice " + s + " 0 = NONE; differ 0 " + s + " 0 = NONE");
        }
    }

    private static void barNothing() {
        for (int l = 0; l < 8; l++) {
            TermsDesk x = new TermsDesk();
            int other = (l + 1) % 8;
            for (int d = 0; d < 8; d++) x.asks(other, d, 15, 15);
            x.part(l, -1, -1);
            x.part(other, -1, -1);
            x.join(1, 0, 0);
            DUE.is("all asks come", x.come(0, 0, other), 255);
            DUE.is("which ASKS it BARS (bits; none at first)", x.quarrels(0), 0);
            x.bars(l, 255);
            DUE.is("and all are barred then", x.quarrels(0), 8);
        }
    }

    private static void termsWithoutParts() {
        DUE.steps("LICENCES are there without PARTS",
            "asks 7 7 15 15 = true; bars 0 128 = true; quarrels 0 = 0; cheapest 0 = 0; judge 0 = NONE; notice 0 0 = NONE",
            "part 0 NONE NONE = 0; part 7 NONE NONE = 1; join 1 0 0 = 0; quarrels 0 = 1; quarrel 0 0 = 63");
    }

    private static void firstPart() {
        DUE.steps("THE PRODUCT is a PART (0 at first)",
            "part 5 6 7 = 0; count 0 = 1; count 3 = 1; count 5 = 0; count 6 = 3; look 0 2 = 1; look 0 3 = 0; look 0 4 = 0",
            "judge 0 = 0; look 0 0 = 5; product 0 = true; product 1 = false; cheapest 0 = 0; quarrels 0 = 0; come 0 0 5 = 0");
    }

    /** After refused calls of every kind a desk is like a new one. */
    private static void onlyRefusals() {
        List<Call> refused = Call.all("asks 8 0 15 15; asks 0 0 16 15; asks 0 0 15 -1; bars 0 256; bars -1 255; part 8 NONE NONE;"
            + "part 0 NONE 1; part 0 0 NONE; part 0 1 1; take 0 0; join 0 1 0; cut 0; except 0 0 0; product 0; change 0 0 0 0;"
            + "change 1 0 0 0; come 0 0 0; quarrels 4; quarrel 0 0; judge 0; cheapest 4; price 1; way 0 0 0 0 0; notice 0 0;"
            + "differ 0 1 0; look 0 0; count 7");
        DUE.refused("a call that is refused (NONE, false) changes nothing", Scene.EMPTY, refused);
    }

    private static void memoryIsItsOwn() {
        TermsDesk first = new TermsDesk();
        TermsDesk full = Scene.FULL.make();
        TermsDesk last = new TermsDesk();
        full.judge(0);
        for (TermsDesk x : List.of(first, last)) {
            DUE.go(x, "all memory is the desk's own", "count 0 = 0; count 1 = 0; count 4 = 0; count 5 = 0; part 0 NONE NONE = 0",
                "part 7 NONE NONE = 1; join 1 0 3 = 0; come 0 0 0 = 0; come 0 1 7 = 0; quarrels 0 = 0; except 1 7 7 = true; price 1 = NONE");
        }
        DUE.go(full, "all memory is the desk's own", "count 0 = 24; count 1 = 40; count 2 = 40; count 4 = 10; except 23 7 7 = false");
    }
}
