import java.util.List;

/** The sentences under 'Terms' of licences, parts, joins, exceptions, the product, what comes, and quarrels. */
public final class TermsTest {
    private static final Due DUE = new Due();

    public static void main(String[] args) {
        noticeIsAskZero();
        shippingsAsBits();
        shippingsNone();
        kindsAsBits();
        kindsNone();
        barsAsBits();
        toldAgain();
        choices();
        oneJoinFromOneToAnother();
        joinThatWasCut();
        exceptionLiftsOne();
        exceptionOfWhatComesFromOthers();
        product();
        ofTheProduct();
        bringsOfTheTaken();
        comesToThePartItself();
        comesUpOnly();
        fromHowManyParts();
        quarrelOfAnotherLicence();
        quarrelOfTheProduct();
        quarrelsInOrder();
        twoDesks();
        DUE.end();
    }

    private static void noticeIsAskZero() {
        DUE.steps("0 is the NOTICE", "part 0 NONE NONE; asks 0 1 15 15; asks 0 7 15 15; notice 0 0 = NONE",
            "asks 0 0 15 15; notice 0 0 = 0; notice 3 0 = 0; notice 0 1 = NONE; asks 0 0 14 15; notice 0 0 = NONE; notice 1 0 = 0");
    }

    private static void shippingsAsBits() {
        for (int bits = 0; bits < 16; bits++) {
            TermsDesk x = Scene.of("part 3 NONE NONE; asks 3 5 " + bits + " 15").make();
            for (int s = 0; s < 4; s++) DUE.is("in which SHIPPINGS (0 to 3, as bits)", x.come(s, 0, 3), (bits >> s & 1) * 32);
        }
    }

    private static void shippingsNone() {
        DUE.steps("none: it doesn't ask it", "bars 0 255; part 0 NONE NONE; part 1 NONE NONE; join 1 0 0; asks 1 0 0 15; asks 1 7 0 15",
            "come 0 1 1 = 0; come 1 1 1 = 0; come 2 0 1 = 0; come 3 0 1 = 0; quarrels 0 = 0; notice 0 0 = NONE; way 0 1 0 1 0 = NONE; differ 0 3 0 = NONE");
    }

    private static void kindsAsBits() {
        for (int bits = 0; bits < 16; bits++)
            for (int kind = 0; kind < 4; kind++) {
                TermsDesk x = Scene.of("part 0 NONE NONE; part 3 NONE NONE; join 1 0 " + kind + "; asks 3 5 15 " + bits + "; asks 3 4 15 " + (15 - bits)).make();
                DUE.is("along which KINDS of JOINS (0 to 3, as bits) it goes", x.come(0, 0, 3), (bits >> kind & 1) == 1 ? 32 : 16);
                DUE.is("along which KINDS of JOINS (0 to 3, as bits) it goes", x.come(0, 1, 3), 48);
            }
    }

    private static void kindsNone() {
        DUE.steps("it goes along no KIND, and is asked all the same", "bars 0 255; asks 1 0 15 0; part 0 NONE NONE; part 1 NONE NONE",
            "join 1 0 0; come 0 1 1 = 1; come 0 0 1 = 0; quarrels 0 = 0; notice 0 0 = NONE; way 0 1 0 1 0 = 1; way 0 1 0 0 0 = NONE");
    }

    private static void barsAsBits() {
        for (int d = 0; d < 8; d++) {
            TermsDesk x = Scene.of("part 0 NONE NONE; part 7 NONE NONE; join 1 0 0").make();
            for (int e = 0; e < 8; e++) x.asks(7, e, 15, 15);
            DUE.go(x, "BARS (bits; none at first)", "quarrels 0 = 0", "bars 0 " + (1 << d), "quarrels 0 = 1", "quarrel 0 0 = " + (56 + d), "quarrel 0 1 = NONE");
            DUE.go(x, "BARS (bits)", "bars 0 " + (255 - (1 << d)), "quarrels 0 = 7", "bars 0 255; quarrels 0 = 8; bars 0 0; quarrels 0 = 0");
        }
    }

    private static void toldAgain() {
        DUE.steps("asks: what is told again stands", "part 3 NONE NONE; asks 3 5 1 15; asks 3 5 2 15; come 0 0 3 = 0; come 1 0 3 = 32; asks 3 5 2 15 = true; come 1 0 3 = 32");
        DUE.steps("asks: of another ASK, of another LICENCE it changes nothing", "part 3 NONE NONE; asks 3 5 15 15; asks 3 4 0 0; asks 3 6 0 0; asks 2 5 0 0; asks 4 5 0 0; come 0 0 3 = 32");
        DUE.steps("bars: of another LICENCE it changes nothing", "part 3 NONE NONE; part 0 NONE NONE; join 1 0 0; asks 0 1 15 15; bars 3 2; bars 2 0; bars 4 0; quarrels 0 = 1; bars 3 2 = true; quarrels 0 = 1");
        DUE.steps("asks, bars: what is told later counts for PARTS that are there", "part 3 NONE NONE; part 0 NONE NONE; join 1 0 2; quarrels 2 = 0; bars 3 128; asks 0 7 4 4; quarrels 2 = 1");
    }

    private static void choices() {
        DUE.steps("one to three CHOICES, the first at first: one", "part 7 NONE NONE = 0; look 0 0 = 7; look 0 1 = 1; look 0 5 = 7; look 0 6 = NONE; look 0 7 = NONE; count 6 = 1");
        DUE.steps("one to three CHOICES, the first at first: two", "part 7 0 NONE = 0; look 0 0 = 7; look 0 1 = 2; look 0 5 = 7; look 0 6 = 0; look 0 7 = NONE; count 6 = 2");
        DUE.steps("one to three CHOICES, the first at first: three", "part 7 0 4 = 0; look 0 0 = 7; look 0 1 = 3; look 0 5 = 7; look 0 6 = 0; look 0 7 = 4; look 0 8 = NONE; count 6 = 3");
        DUE.steps("take: the CHOICES stay", "part 7 0 4; take 0 2 = true; look 0 0 = 4; look 0 1 = 3; look 0 5 = 7; look 0 6 = 0; look 0 7 = 4; take 0 0 = true; look 0 0 = 7; take 0 1 = true; look 0 0 = 0");
        DUE.steps("take: of this PART alone", "part 0 1 NONE; part 0 1 NONE; part 0 1 NONE; take 1 1 = true; look 0 0 = 0; look 1 0 = 1; look 2 0 = 0");
    }

    private static void oneJoinFromOneToAnother() {
        for (int k = 0; k < 4; k++)
            DUE.steps("at most one JOIN from one to another", "part 0 NONE NONE; part 0 NONE NONE; part 0 NONE NONE; join 1 0 " + k + " = 0",
                "join 1 0 0 = NONE; join 1 0 1 = NONE; join 1 0 2 = NONE; join 1 0 3 = NONE; join 2 0 0 = 1; join 2 1 0 = 2; join 2 1 1 = NONE; join 2 0 1 = NONE; count 2 = 3");
        DUE.steps("there is a JOIN through another PART, and none from a to b", "part 0 NONE NONE; part 0 NONE NONE; part 0 NONE NONE; join 2 1 0 = 0; join 1 0 0 = 1; join 2 0 0 = 2");
    }

    private static void joinThatWasCut() {
        DUE.steps("a JOIN that was CUT is gone", "asks 1 1 15 15; bars 0 2; part 0 NONE NONE; part 1 NONE NONE; join 1 0 0 = 0; quarrels 0 = 1; cut 0 = true",
            "quarrels 0 = 0; come 0 0 1 = 0; come 0 1 1 = 2; count 1 = 1; count 2 = 0; count 3 = 1; look 0 3 = 0; look 1 4 = 0; look 1 2 = 0; way 0 1 1 0 0 = NONE");
        DUE.steps("its number is not given again", "part 0 NONE NONE; part 0 NONE NONE; part 0 NONE NONE; join 1 0 0 = 0; join 2 1 0 = 1; cut 0; join 1 0 3 = 2; cut 0 = false; cut 2 = true; cut 1 = true; join 2 1 0 = 3");
        DUE.steps("a JOIN that was CUT is gone: it makes no circle", "part 0 NONE NONE; part 0 NONE NONE; part 0 NONE NONE; join 1 0 0; join 2 1 0; join 0 2 0 = NONE; cut 0; join 0 2 0 = 2; join 1 0 0 = NONE; cut 1; join 1 0 0 = 3");
        DUE.steps("a JOIN that was CUT is gone: it may lead back", "part 0 NONE NONE; part 0 NONE NONE; join 1 0 0 = 0; join 0 1 0 = NONE; cut 0; join 0 1 0 = 1; join 1 0 0 = NONE; cut 1; join 1 0 0 = 2");
        DUE.steps("a JOIN that was CUT is gone: the others stay", "asks 1 1 15 15; part 0 NONE NONE; part 1 NONE NONE; part 2 NONE NONE; join 1 0 0; join 1 2 0; join 2 0 0; cut 0; come 0 0 1 = 2; cut 2; come 0 0 1 = 0; come 0 2 1 = 2; count 2 = 1");
    }

    private static void exceptionLiftsOne() {
        for (int l = 0; l < 8; l++)
            for (int d = 0; d < 8; d++)
                for (int p = 0; p < 3; p++) lifted(p, l, d);
        DUE.steps("an EXCEPTION lifts it by every SHIPPING", "asks 1 1 15 15; part 1 NONE NONE; except 0 1 1; come 0 0 1 = 0; come 1 0 1 = 0; come 2 0 1 = 0; come 3 0 1 = 0");
        DUE.steps("an EXCEPTION is told before the ASK", "part 1 NONE NONE; except 0 1 1 = true; asks 1 1 15 15; come 0 0 1 = 0; except 0 1 1 = false");
    }

    /** Three parts that may all have licence l and its neighbours, each of which asks all. */
    private static void lifted(int p, int l, int d) {
        int above = (l + 1) % 8;
        int below = (l + 7) % 8;
        TermsDesk x = Scene.of(Scene.row("part", l, above, below).repeat(3)).make();
        for (int k = 0; k < 64; k++) x.asks(k / 8, k % 8, 15, 15);
        DUE.holds("an EXCEPTION for a PART", x.except(p, l, d));
        for (int q = 0; q < 3; q++) DUE.is("an EXCEPTION lifts one ASK for a PART", x.come(0, q, l), q == p ? 255 - (1 << d) : 255);
        x.take(p, 1);
        DUE.is("an EXCEPTION lifts one ASK of one LICENCE", x.come(0, p, above), 255);
        x.take(p, 2);
        DUE.is("an EXCEPTION lifts one ASK of one LICENCE", x.come(0, p, below), 255);
        x.take(p, 0);
        DUE.is("an EXCEPTION stays", x.come(0, p, l), 255 - (1 << d));
    }

    private static void exceptionOfWhatComesFromOthers() {
        DUE.steps("no EXCEPTION lifts it for this PART: what comes from another one goes on", "asks 1 1 15 15; bars 0 2; part 0 NONE NONE; part 1 NONE NONE; part 1 NONE NONE; join 1 0 0; join 2 1 0",
            "except 1 1 1 = true; come 0 1 1 = 2; come 0 0 1 = 2; quarrels 0 = 1; way 0 1 1 0 0 = 2; way 0 1 1 1 0 = 2; except 0 1 1 = true; come 0 0 1 = 2; quarrels 0 = 1; except 2 1 1 = true; come 0 0 1 = 0; come 0 1 1 = 0; quarrels 0 = 0");
    }

    private static void product() {
        DUE.steps("THE PRODUCT is a PART (0 at first)", "part 0 NONE NONE; part 0 NONE NONE; count 5 = 0; product 1 = true; count 5 = 1; product 1 = true; count 5 = 1; product 0 = true; count 5 = 0; product 2 = false; product -1 = false; count 5 = 0");
        DUE.steps("a new PART does not become THE PRODUCT", "part 0 NONE NONE; part 0 NONE NONE; product 1; part 0 NONE NONE = 2; count 5 = 1; count 3 = 1");
    }

    private static void ofTheProduct() {
        DUE.steps("what is OF IT: it, alone", "part 0 NONE NONE; part 0 NONE NONE; count 3 = 1; look 0 2 = 1; look 1 2 = 0");
        DUE.steps("each PART that is IN one that is: through several, each once", "part 0 NONE NONE; part 0 NONE NONE; part 0 NONE NONE; part 0 NONE NONE; part 0 NONE NONE",
            "join 1 0 0; join 2 0 1; join 3 1 2; join 3 2 3; join 0 4 0; count 3 = 4; look 4 2 = 0; look 3 2 = 1; product 4; count 3 = 5; product 3; count 3 = 1; product 1; count 3 = 2; look 2 2 = 0; look 0 2 = 0");
        DUE.steps("it is OF IT, though nothing goes along the JOIN", "asks 1 1 15 0; part 0 NONE NONE; part 1 2 NONE; join 1 0 3; count 3 = 2; count 6 = 2; look 1 2 = 1; come 0 0 1 = 0");
        for (int top = 0; top < 24; top += 23) {
            StringBuilder all = new StringBuilder("part 0 NONE NONE;".repeat(24));
            for (int k = 1; k < 24; k++) all.append(Scene.row("join", Math.abs(top - k), Math.abs(top - k + 1), k % 4));
            TermsDesk x = Scene.of(all.toString()).make();
            for (int k = 0; k < 24; k++) DUE.go(x, "each PART that is IN one that is", "product " + Math.abs(top - k), "count 3 = " + (24 - k), "look " + top + " 2 = " + (k == 0 ? 1 : 0));
        }
    }

    private static void bringsOfTheTaken() {
        DUE.steps("a PART BRINGS an ASK, of the LICENCE that it has TAKEN", "asks 5 1 15 15; asks 6 2 15 15; asks 7 3 15 15; part 5 6 7",
            "come 0 0 5 = 2; come 0 0 6 = 0; come 0 0 7 = 0; take 0 1; come 0 0 5 = 0; come 0 0 6 = 4; come 0 0 7 = 0; take 0 2; come 0 0 6 = 0; come 0 0 7 = 8; way 0 5 1 0 0 = NONE; way 0 7 3 0 0 = 0");
    }

    private static void comesToThePartItself() {
        DUE.steps("it comes to the PART itself, OF THE PRODUCT or not", "asks 1 0 15 0; part 0 NONE NONE; part 1 NONE NONE; come 0 1 1 = 1; way 0 1 0 1 0 = 1; way 0 1 0 1 1 = NONE; notice 0 0 = NONE; product 1; notice 0 0 = 1; notice 0 1 = NONE; differ 0 1 0 = NONE");
    }

    private static void comesUpOnly() {
        DUE.steps("from a PART to each one that this is IN, not to those that are IN it", "asks 1 1 15 15; part 2 NONE NONE; part 1 NONE NONE; part 2 NONE NONE; part 2 NONE NONE; join 1 0 0; join 2 1 0; join 1 3 1",
            "come 0 0 1 = 2; come 0 2 1 = 0; come 0 3 1 = 2; come 0 1 1 = 2");
        DUE.steps("along the KIND of each JOIN on the way", "asks 1 1 15 1; asks 1 2 15 3; part 2 NONE NONE; part 2 NONE NONE; part 1 NONE NONE; join 2 1 0; join 1 0 1; come 0 1 1 = 6; come 0 0 1 = 4; join 2 0 0; come 0 0 1 = 6");
        DUE.steps("as its LICENCE tells: not the LICENCE of the PART on the way", "asks 1 1 15 15; asks 2 1 15 0; part 2 NONE NONE; part 2 NONE NONE; part 1 NONE NONE; join 2 1 0; join 1 0 0; come 0 0 1 = 2; come 0 0 2 = 2; come 0 1 2 = 2; product 1; come 0 0 1 = 2");
    }

    private static void fromHowManyParts() {
        StringBuilder all = new StringBuilder("asks 1 1 15 15; bars 0 2; part 0 NONE NONE;" + "part 1 NONE NONE;".repeat(23));
        for (int p = 1; p < 24; p++) all.append(Scene.row("join", p, 0, p % 4));
        TermsDesk x = Scene.of(all.toString()).make();
        DUE.go(x, "it does not count from how many PARTS it came", "come 0 0 1 = 2; quarrels 0 = 1; quarrel 0 0 = 9; quarrel 0 1 = NONE; judge 0 = 1; way 0 1 1 0 0 = 1");
        for (int p = 1; p < 23; p++) x.except(p, 1, 1);
        DUE.go(x, "one of 23 is left", "come 0 0 1 = 2; quarrels 0 = 1; way 0 1 1 0 0 = 23; except 23 1 1; come 0 0 1 = 0; quarrels 0 = 0");
    }

    private static void quarrelOfAnotherLicence() {
        DUE.steps("if the LICENCE that the PART has TAKEN is another one", "asks 1 1 15 15; asks 0 1 15 15; bars 1 255; part 1 0 NONE; part 1 NONE NONE; join 1 0 0; come 0 0 1 = 2; quarrels 0 = 0; bars 0 2; quarrels 0 = 0; take 0 1; come 0 0 0 = 2; quarrels 0 = 1; quarrel 0 0 = 9");
        DUE.steps("and BARS this ASK, of whatever LICENCE", "asks 1 1 15 15; asks 2 1 15 15; asks 2 2 15 15; bars 0 2; part 0 NONE NONE; part 1 NONE NONE; part 2 NONE NONE; join 1 0 0; join 2 0 0; quarrels 0 = 2; quarrel 0 0 = 9; quarrel 0 1 = 17");
        DUE.steps("that has come to the PART", "asks 1 1 2 2; bars 0 2; part 0 NONE NONE; part 1 NONE NONE; join 1 0 0; quarrels 1 = 0; join 1 0 1 = NONE; cut 0; join 1 0 1 = 1; quarrels 1 = 1; quarrels 0 = 0; quarrels 2 = 0");
    }

    private static void quarrelOfTheProduct() {
        DUE.steps("a QUARREL: a PART OF THE PRODUCT", "asks 1 1 15 15; bars 0 2; part 3 NONE NONE; part 0 NONE NONE; part 1 NONE NONE; join 2 1 0; come 0 1 1 = 2; quarrels 0 = 0; quarrel 0 0 = NONE; cheapest 0 = 0; judge 0 = 0; product 1; quarrels 0 = 1; quarrel 0 0 = 73; judge 0 = 1; product 2; quarrels 0 = 0; product 0; join 1 0 0; quarrels 0 = 1");
    }

    private static void quarrelsInOrder() {
        DUE.steps("the i-th QUARREL, by PART, then LICENCE, then ASK", "asks 1 7 15 15; asks 2 0 15 15; asks 2 6 15 15; bars 0 255; bars 1 255; part 2 NONE NONE; part 1 NONE NONE; part 0 NONE NONE; join 0 1 0; join 1 2 0; product 2",
            "quarrels 0 = 5; quarrel 0 0 = 80; quarrel 0 1 = 86; quarrel 0 2 = 143; quarrel 0 3 = 144; quarrel 0 4 = 150; quarrel 0 5 = NONE; quarrel 0 -1 = NONE; quarrel 0 MIN = NONE; quarrel 0 MAX = NONE");
    }

    /** A small and a full desk, made and asked by turns: each answers as if it were alone. */
    private static void twoDesks() {
        TermsDesk[] desks = {new TermsDesk(), new TermsDesk()};
        Model[] models = {new Model(), new Model()};
        List<List<Call>> calls = List.of(Scene.SMALL.calls(), Scene.FULL.calls());
        for (int k = 0; k < 200; k++)
            for (int i = 0; i < 2; i++)
                if (k < calls.get(i).size()) byTurns(desks[i], models[i], calls.get(i).get(k));
        StringBuilder asked = new StringBuilder("judge 0; count 3; count 5; count 6; price 7; quarrels 0; quarrels 1;");
        for (int p = 0; p < 24; p++) for (int what = 0; what < 8; what++) asked.append(Scene.row("look", p, what));
        for (int p = 0; p < 6; p++) for (int l = 0; l < 8; l++) asked.append(Scene.row("come", l % 4, p, l));
        for (int j = 0; j < 40; j += 3) asked.append(Scene.row("cut", j)).append(Scene.row("except", j % 24, j % 8, 7)).append(Scene.row("take", j % 7, j % 3));
        for (Call call : Call.all(asked.toString()))
            for (int i = 0; i < 2; i++) byTurns(desks[i], models[i], call);
    }

    private static void byTurns(TermsDesk x, Model m, Call call) {
        DUE.is("all memory is the desk's own: " + call, call.on(x), call.on(m));
    }
}
