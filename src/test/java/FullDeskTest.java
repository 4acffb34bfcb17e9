import java.util.ArrayList;
import java.util.List;

/** The full desk (24 PARTS, 40 JOINS told, 10 CHANGES, 6561 ways) and the 512th call of an object. */
public final class FullDeskTest {
    private static final Due DUE = new Due();

    public static void main(String[] args) {
        parts();
        joins();
        joinsCut();
        joinsOfOnePart();
        changes();
        greatestNumbers();
        mostQuarrels();
        asTheModel();
        lastCallOfEachKind();
        changedByEveryCall();
        DUE.end();
    }

    private static void parts() {
        TermsDesk x = new TermsDesk();
        for (int p = 0; p < 24; p++) DUE.is("PARTS 0 to 23", p % 2 == 0 ? x.part(p % 8, -1, -1) : x.part(0, 1, 2), p);
        DUE.go(x, "part: NONE: 24 are there", "part 0 NONE NONE = NONE; part 0 1 NONE = NONE; part 0 1 2 = NONE; count 0 = 24");
        for (int p = 0; p < 24; p++) DUE.go(x, "PARTS 0 to 23", "look " + p + " 1 = " + (p % 2 == 0 ? 1 : 3), "product " + p + " = true", "count 5 = " + p);
        DUE.go(x, "PARTS 0 to 23", "product 24 = false; look 24 0 = NONE; take 24 0 = false; come 0 24 0 = NONE; count 5 = 23");
    }

    private static void joins() {
        TermsDesk x = new TermsDesk();
        for (int p = 0; p < 24; p++) x.part(0, -1, -1);
        int told = 0;
        for (int p = 1; p < 24; p++) DUE.is("JOINS 0 to 39", x.join(p, p - 1, told % 4), told++);
        for (int p = 7; p < 24; p++) DUE.is("JOINS 0 to 39", x.join(p, p - 2, told % 4), told++);
        DUE.go(x, "join: NONE: 40 were told", "join 23 0 0 = NONE; join 5 0 0 = NONE; count 1 = 40; count 2 = 40; count 3 = 24");
        DUE.go(x, "a JOIN is CUT, the 39th too", "cut 40 = false; cut 39 = true; cut 39 = false; count 1 = 40; count 2 = 39");
        DUE.go(x, "join: NONE: 40 were told, one is gone", "join 23 21 0 = NONE; join 23 0 0 = NONE; count 1 = 40; count 2 = 39");
    }

    private static void joinsCut() {
        TermsDesk x = Scene.of("part 0 NONE NONE; part 1 NONE NONE; asks 1 1 15 15").make();
        for (int j = 0; j < 40; j++) {
            DUE.go(x, "its number is not given again", "join 1 0 0 = " + j, "count 1 = " + (j + 1), "count 2 = 1; come 0 0 1 = 2; cut " + j + " = true");
            DUE.go(x, "a JOIN that was CUT is gone", "count 2 = 0; come 0 0 1 = 0; cut " + j + " = false");
        }
        DUE.go(x, "40 were told, and none is there", "join 1 0 0 = NONE; join 0 1 0 = NONE; count 1 = 40; count 2 = 0; count 3 = 1");
    }

    /** 23 parts in one, and one part in 23. */
    private static void joinsOfOnePart() {
        TermsDesk x = new TermsDesk();
        for (int p = 0; p < 24; p++) x.part(p % 8, -1, -1);
        for (int p = 0; p < 23; p++) x.join(p, 23, p % 4);
        DUE.go(x, "JOINS by which others are IN it, as many as can be", "look 23 3 = 23; look 23 4 = 0; look 0 3 = 0; look 0 4 = 1");
        DUE.go(x, "PARTS OF THE PRODUCT", "count 3 = 1; product 23 = true; count 3 = 24");
        TermsDesk y = new TermsDesk();
        for (int p = 0; p < 24; p++) y.part(p % 8, -1, -1);
        for (int p = 0; p < 23; p++) y.join(23, p, p % 4);
        DUE.go(y, "by which it is IN others, as many as can be", "look 23 3 = 0; look 23 4 = 23; look 22 3 = 1; look 22 4 = 0; count 3 = 2");
    }

    private static void changes() {
        TermsDesk x = Scene.of("part 0 NONE NONE; part 1 NONE NONE; join 1 0 0").make();
        for (int c = 0; c < 10; c++) {
            DUE.go(x, "the price of a set: one CHANGE too many", "price " + (1 << c) + " = NONE");
            DUE.go(x, "CHANGES 0 to 9", "change " + (c % 2) + " 0 0 100000 = " + c, "count 4 = " + (c + 1));
            DUE.go(x, "the price of a set of CHANGES", "price " + (1 << c) + " = 100000", "price " + ((2 << c) - 1) + " = " + 100000 * (c + 1));
        }
        DUE.go(x, "change: NONE: 10 are there", "change 0 0 0 0 = NONE; change 1 0 0 0 = NONE; count 4 = 10");
        DUE.go(x, "the price of all ten", "price 1023 = 1000000; price 1024 = NONE; price 2047 = NONE; price 1025 = NONE; price 512 = 100000; price 0 = 0");
    }

    private static void greatestNumbers() {
        StringBuilder all = new StringBuilder("asks 7 7 8 8; bars 6 128;");
        for (int p = 0; p < 22; p++) all.append("part 0 NONE NONE;");
        TermsDesk x = Scene.of(all + "part 7 NONE NONE; part 6 NONE NONE; join 22 23 3; product 23").make();
        DUE.go(x, "64 times the PART, 8 times the LICENCE and the ASK: 23, 7 and 7", "quarrels 3 = 1; quarrel 3 0 = 1535; quarrel 3 1 = NONE");
        DUE.go(x, "PART, LICENCE, ASK, SHIPPING and KIND of highest numbers", "come 3 23 7 = 128; way 3 7 7 23 0 = 22; way 3 7 7 23 1 = 23; way 3 7 7 23 2 = NONE");
        DUE.go(x, "the other SHIPPINGS", "quarrels 0 = 0; quarrels 1 = 0; quarrels 2 = 0; differ 3 0 0 = 22; differ 3 0 1 = 23; differ 3 0 2 = NONE");
        TermsDesk y = Scene.of("asks 0 0 1 1; bars 1 1; part 1 NONE NONE; part 0 NONE NONE; join 1 0 0").make();
        DUE.go(y, "64 times the PART, 8 times the LICENCE and the ASK: 0, 0 and 0", "quarrels 0 = 1; quarrel 0 0 = 0; quarrel 0 1 = NONE; quarrel 1 0 = NONE");
        DUE.go(y, "PART, LICENCE, ASK, SHIPPING and KIND of lowest numbers", "come 0 0 0 = 1; way 0 0 0 0 0 = 1; way 0 0 0 0 1 = 0; notice 0 0 = 1; notice 0 1 = NONE");
    }

    /** Eight parts bring all that can be asked, and above them each part quarrels with what is not its own. */
    private static void mostQuarrels() {
        StringBuilder all = new StringBuilder();
        for (int l = 0; l < 8; l++) {
            for (int d = 0; d < 8; d++) all.append(Scene.row("asks", l, d, 15, 15));
            all.append(Scene.row("bars", l, 255));
        }
        for (int p = 0; p < 24; p++) all.append(Scene.row("part", p % 8, -1, -1));
        for (int p = 1; p < 24; p++) all.append(Scene.row("join", p, p - 1, p % 4));
        TermsDesk x = Scene.of(all.toString()).make();
        // Parts 0 to 16 have all eight licences in them; part 23 has none but its own, 22 one other and so on.
        int most = 17 * 56 + 8 * (0 + 1 + 2 + 3 + 4 + 5 + 6);
        DUE.go(x, "most QUARRELS", "quarrels 0 = " + most, "quarrel 0 " + (most - 1) + " = " + (64 * 22 + 8 * 7 + 7));
        DUE.go(x, "most QUARRELS", "quarrel 0 " + most + " = NONE; quarrel 0 0 = 8; quarrel 0 55 = 63; quarrel 0 56 = 64; quarrel 0 57 = 65");
        DUE.go(x, "most QUARRELS", "judge 0 = " + most, "cheapest 0 = NONE");
        for (int l = 0; l < 8; l++) DUE.go(x, "most that can come", "come 3 0 " + l + " = 255");
    }

    private static void asTheModel() {
        TermsDesk x = Scene.FULL.make();
        Model m = Scene.FULL.makeModel();
        List<Call> calls = new ArrayList<>(Call.all("count 3; count 6; quarrels 0; quarrels 1; quarrels 2; quarrels 3; cheapest 0; judge 1"));
        for (int p = 0; p < 24; p++) for (int what = 0; what < 5; what++) calls.add(new Call("look", new int[] {p, what}));
        for (int k = 0; k < 110; k++) {
            calls.add(new Call("quarrel", new int[] {k % 4, 2 * k}));
            calls.add(new Call("way", new int[] {k % 4, k % 8, k / 8 % 8, k % 6, k % 3}));
        }
        for (Call call : calls) DUE.is("a full desk, as the plain model: " + call, call.on(x), call.on(m));
    }

    /** "An object is used for at most 512 calls": the 512th is answered as every other one. */
    private static void lastCallOfEachKind() {
        String due = "asks 7 7 15 15 = true; bars 7 255 = true; part 0 1 2 = 3; take 1 1 = true; join 2 0 3 = 1; cut 0 = true; except 1 1 1 = true;"
            + "product 1 = true; change 0 1 0 9 = 1; change 1 0 0 9 = 1; come 2 0 1 = 2; quarrels 2 = 1; quarrel 2 0 = 9; judge 2 = 0; cheapest 2 = 1;"
            + "price 1 = 7; way 2 1 1 0 0 = 1; notice 0 0 = 0; differ 0 2 1 = 1; look 1 0 = 1; count 0 = 3";
        String before = "asks 1 1 4 2; asks 2 0 1 0; bars 2 2; part 2 NONE NONE; part 1 2 NONE; part 0 NONE NONE; join 1 0 1; product 0; change 0 1 0 7";
        for (String last : due.split(";")) {
            TermsDesk x = new TermsDesk();
            List<Call> first = Call.all(before);
            for (Call call : first) call.on(x);
            for (int k = first.size(); k < 511; k++) if (k % 2 == 0) x.count(k % 9); else x.quarrels(k % 5);
            DUE.go(x, "an object is used for at most 512 calls", last);
        }
    }

    /** 512 calls each of which changes something, or is refused: no number of calls uses up the desk. */
    private static void changedByEveryCall() {
        TermsDesk x = Scene.of("part 5 6 7; part 0 NONE NONE").make();
        for (int k = 2; k < 511; k++) DUE.is("take again and again", x.take(0, (k - 1) % 3) ? 1 : 0, 1);
        DUE.go(x, "take again and again", "look 0 0 = 7");
        TermsDesk y = new TermsDesk();
        for (int p = 0; p < 8; p++) y.part(p, -1, -1);
        for (int k = 0; k < 502; k++) DUE.is("except again and again", y.except(k / 64, k % 64 / 8, k % 8) ? 1 : 0, 1);
        DUE.go(y, "except again and again", "except 7 6 5 = false; except 7 6 6 = true");
        TermsDesk z = new TermsDesk();
        for (int k = 0; k < 510; k++) DUE.is("asks again and again", z.asks(k % 8, k / 8 % 8, k % 16, 15) ? 1 : 0, 1);
        DUE.go(z, "asks again and again", "part 5 NONE NONE = 0; come 3 0 5 = 170");
        TermsDesk w = new TermsDesk();
        for (int k = 0; k < 511; k++) DUE.is("part again and again", w.part(0, 1, 2), k < 24 ? k : TermsDesk.NONE);
        DUE.go(w, "part again and again", "count 0 = 24");
        TermsDesk v = Scene.of("part 0 NONE NONE; part 0 NONE NONE").make();
        for (int j = 0; j < 254; j++) {
            DUE.is("join and cut again and again", v.join(1, 0, 0), j < 40 ? j : TermsDesk.NONE);
            DUE.is("join and cut again and again", v.cut(j) ? 1 : 0, j < 40 ? 1 : 0);
        }
        DUE.go(v, "join and cut again and again", "count 1 = 40; count 2 = 0");
    }
}
