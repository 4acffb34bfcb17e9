/** The sentences of the second part of 'Terms': to judge, the cheapest, the way, notices, and what differs. */
public final class SearchTest {
    private static final Due DUE = new Due();
    private static final int NONE = TermsDesk.NONE;

    public static void main(String[] args) {
        atMost6561Ways();
        waysOfTheProductAlone();
        fewestQuarrels();
        fewestPairs();
        leastRow();
        judgeStays();
        cheapestEmptySet();
        cheapestLeastPrice();
        cheapestFewest();
        cheapestLowestNumber();
        changesOfOnePart();
        cheapestCutsJoins();
        cheapestChangesNothing();
        greatestPrices();
        wayFewest();
        wayLeast();
        wayOfOnePart();
        notices();
        differ();
        DUE.end();
    }

    /** A product with so many parts of three and of two choices; the others have one. */
    private static TermsDesk star(int threes, int twos) {
        TermsDesk x = new TermsDesk();
        for (int p = 0; p < 24; p++) {
            if (p < threes) x.part(0, 1, 2);
            else if (p < threes + twos) x.part(1, 2, NONE);
            else x.part(2, NONE, NONE);
        }
        for (int p = 1; p < 24; p++) x.join(p, 0, 0);
        return x;
    }

    /** All numbers of ways that can be: 6561 is taken, 6912 is the next one, and 3 to the 20th wraps round. */
    private static void atMost6561Ways() {
        for (int threes = 0; threes <= 24; threes++)
            for (int twos = 0; threes + twos <= 24; twos++) {
                TermsDesk x = star(threes, twos);
                double ways = Math.pow(3, threes) * Math.pow(2, twos);
                String sentence = "at most 6561 ways: " + threes + " of three CHOICES, " + twos + " of two";
                int last = threes + twos - 1;
                if (last >= 0) x.take(last, 1);
                int taken = x.look(Math.max(last, 0), 0);
                DUE.is(sentence, x.count(6), ways > 6561 ? NONE : (int) ways);
                DUE.is(sentence + ": judge", x.judge(3), ways > 6561 ? NONE : 0);
                int due = ways > 6561 ? taken : x.look(Math.max(last, 0), 5);
                DUE.is(sentence + ": is taken", x.look(Math.max(last, 0), 0), due);
            }
        DUE.is("6561 ways", star(8, 0).count(6), 6561);
        DUE.is("6144 ways", star(1, 11).count(6), 6144);
        DUE.is("6912 ways", star(3, 8).count(6), NONE);
    }

    private static void waysOfTheProductAlone() {
        TermsDesk x = new TermsDesk();
        for (int p = 0; p < 24; p++) x.part(0, 1, 2);
        DUE.go(x, "ways to take CHOICES for the PARTS OF THE PRODUCT", "count 6 = 3; judge 0 = 0");
        for (int p = 1; p < 8; p++) DUE.go(x, "ways to take CHOICES for the PARTS OF THE PRODUCT", "join " + p + " 0 0", "count 6 = " + (int) Math.pow(3, p + 1), "judge 0 = 0");
        DUE.go(x, "ways to take CHOICES for the PARTS OF THE PRODUCT", "join 9 8 0; join 0 9 0; count 6 = 6561; judge 0 = 0; product 9; count 6 = NONE; judge 0 = NONE; product 8; count 6 = NONE; judge 0 = NONE");
        DUE.go(x, "ways to take CHOICES for the PARTS OF THE PRODUCT", "product 0; join 10 7 0; count 6 = NONE; judge 0 = NONE; cut 9; count 6 = 6561; judge 0 = 0; product 10; count 6 = 3; judge 0 = 0");
    }

    private static void fewestQuarrels() {
        DUE.steps("that with fewest QUARRELS, though more comes to THE PRODUCT", "asks 1 1 15 15; asks 2 2 15 15; asks 2 3 15 15; bars 0 2; part 0 NONE NONE; part 1 2 NONE; join 1 0 0; judge 0 = 0; look 1 0 = 2; come 0 0 2 = 12");
        DUE.steps("how many QUARRELS there are with what is TAKEN then: some stay", "asks 1 1 15 15; asks 2 1 15 15; asks 2 2 15 15; bars 0 6; part 0 NONE NONE; part 2 1 NONE; join 1 0 0; quarrels 0 = 2; judge 0 = 1; look 1 0 = 1; quarrels 0 = 1");
        DUE.steps("by s: only what is asked in it counts", "asks 1 1 1 15; asks 2 1 2 15; bars 0 2; part 0 NONE NONE; part 1 2 NONE; join 1 0 0; judge 0 = 0; look 1 0 = 2; judge 1 = 0; look 1 0 = 1; judge 2 = 0; look 1 0 = 1; judge 3 = 0; look 1 0 = 1");
        DUE.steps("fewest QUARRELS of all PARTS OF THE PRODUCT", "asks 1 1 15 1; asks 2 2 15 3; bars 0 2; bars 3 4; part 3 NONE NONE; part 0 NONE NONE; part 1 2 NONE; join 1 0 1; join 2 1 0; quarrels 0 = 1; judge 0 = 1; look 2 0 = 1; bars 3 0; judge 0 = 0; look 2 0 = 2");
        // Row (0, 1) is less than (1, 0), but then part 2, between the two, quarrels.
        DUE.steps("that with fewest QUARRELS goes before the least row", "asks 4 4 15 15; asks 5 5 15 15; bars 2 16; bars 7 32; part 2 3 NONE; part 4 5 NONE; part 7 NONE NONE; join 1 2 0; join 2 0 0; judge 0 = 0; look 0 0 = 3; look 1 0 = 4; quarrels 0 = 0");
        // The best of 6561 ways is the last one: each part must take its third choice.
        StringBuilder all = new StringBuilder("asks 0 1 15 15; asks 1 1 15 15; bars 3 2; part 3 NONE NONE;" + "part 0 1 2;".repeat(8));
        for (int p = 1; p < 9; p++) all.append(Scene.row("join", p, p - 1, 0));
        TermsDesk x = Scene.of(all.toString()).make();
        DUE.go(x, "the last of 6561 ways", "count 6 = 6561; quarrels 0 = 1; judge 0 = 0");
        for (int p = 1; p < 9; p++) DUE.go(x, "the last of 6561 ways", "look " + p + " 0 = 2");
    }

    private static void fewestPairs() {
        DUE.steps("of like ones that with fewest pairs of LICENCE and ASK that come to THE PRODUCT", "asks 1 1 15 15; asks 1 2 15 15; asks 2 3 15 15; part 0 NONE NONE; part 1 2 NONE; join 1 0 0; judge 0 = 0; look 1 0 = 2");
        DUE.steps("that come to THE PRODUCT: not those that come to others", "asks 1 1 15 1; asks 2 3 15 15; part 0 NONE NONE; part 0 NONE NONE; part 2 1 NONE; join 1 0 1; join 2 1 0; judge 0 = 0; look 2 0 = 1; come 0 1 1 = 2");
        DUE.steps("pairs of LICENCE and ASK: ASK 1 of two LICENCES is two", "asks 1 1 15 15; asks 2 1 15 15; part 0 NONE NONE; part 2 1 NONE; part 1 NONE NONE; join 1 0 0; join 2 0 0; judge 0 = 0; look 1 0 = 1");
        DUE.steps("pairs that THE PRODUCT brings itself come to it", "asks 1 1 15 0; part 1 2 NONE; judge 0 = 0; look 0 0 = 2; asks 2 1 15 0; judge 0 = 0; look 0 0 = 1");
        DUE.steps("pairs by s", "asks 1 1 2 15; part 1 2 NONE; judge 0 = 0; look 0 0 = 1; judge 1 = 0; look 0 0 = 2; judge 0 = 0; look 0 0 = 1");
    }

    private static void leastRow() {
        DUE.steps("of like ones the least row: the first of all", "part 5 6 7; part 7 6 5; join 1 0 0; take 0 2; take 1 1; judge 0 = 0; look 0 0 = 5; look 1 0 = 7");
        DUE.steps("the place in its CHOICES, not the LICENCE's number", "asks 7 1 15 0; part 7 6 5; judge 0 = 0; look 0 0 = 6");
        // One of the two must leave its first choice, and it is that of the higher number.
        String either = "asks 0 1 15 15; asks 1 2 15 15; asks 2 3 15 15; asks 3 4 15 15;";
        DUE.steps("PART by PART, by numbers", either + "bars 1 2; bars 3 8; part 1 3 NONE; part 0 2 NONE; join 1 0 0; judge 0 = 0; look 0 0 = 1; look 1 0 = 2");
        DUE.steps("PART by PART, by numbers: THE PRODUCT is the last one", either + "bars 1 2; bars 3 8; part 0 2 NONE; part 1 3 NONE; join 0 1 0; product 1; judge 0 = 0; look 0 0 = 0; look 1 0 = 3");
        DUE.steps("PART by PART, by numbers: the first PARTS are alike", either + "bars 1 2; bars 3 8; part 4 NONE NONE; part 1 3 NONE; part 0 2 NONE; join 1 0 0; join 2 1 0; judge 0 = 0; look 1 0 = 1; look 2 0 = 2");
        DUE.steps("PART by PART, by numbers: the last PART is deepest", either + "bars 1 2; bars 3 8; part 4 5 6; part 4 5 6; part 1 3 NONE; part 0 2 NONE; join 1 0 0; join 2 1 0; join 3 2 0; take 0 1; take 1 2; judge 0 = 0; look 0 0 = 4; look 1 0 = 4; look 2 0 = 1; look 3 0 = 2");
        // 23 parts with one choice lie between the two that have several.
        StringBuilder all = new StringBuilder(either + "bars 1 2; bars 3 8; part 0 2 NONE;" + "part 4 NONE NONE;".repeat(22) + "part 1 3 NONE;");
        for (int p = 1; p < 24; p++) all.append(Scene.row("join", p - 1, p, 0));
        DUE.go(Scene.of(all + "product 23; take 0 1").make(), "PART by PART, of 24", "count 6 = 4; judge 0 = 0; look 0 0 = 0; look 23 0 = 3");
    }

    private static void judgeStays() {
        DUE.steps("(others stay)", "asks 0 1 15 15; part 5 NONE NONE; part 0 1 2; part 0 1 2; join 1 0 0; take 2 2; take 1 2; judge 0 = 0; look 1 0 = 1; look 2 0 = 2; product 2; judge 0 = 0; look 2 0 = 1");
        DUE.steps("what is TAKEN then stays, and judged again it is the same", "asks 0 1 15 15; part 0 1 2; judge 0 = 0; look 0 0 = 1; judge 0 = 0; look 0 0 = 1; take 0 1 = false; take 0 0 = true; look 0 0 = 0");
        DUE.steps("judged again, QUARRELS that stay are counted once", ONE_BRINGS + "judge 0 = 1; judge 0 = 1; judge 3 = 1; judge 0 = 1; quarrels 0 = 1");
        DUE.steps("judged again after a JOIN was CUT, with another PRODUCT", "asks 1 1 15 15; bars 0 2; part 0 NONE NONE; part 1 NONE NONE; part 1 3 NONE; join 1 0 0; join 2 0 0; take 2 1; judge 0 = 1; look 2 0 = 1; take 2 1; cut 1; judge 0 = 1; look 2 0 = 3; cut 0; judge 0 = 0; product 1; judge 0 = 0; look 2 0 = 3; product 2; judge 0 = 0; look 2 0 = 3; take 2 0; judge 0 = 0; look 2 0 = 3");
        DUE.steps("an EXCEPTION counts when it is judged", "asks 0 1 15 15; part 0 1 NONE; except 0 0 1; judge 0 = 0; look 0 0 = 0");
        DUE.steps("CHANGES that were told do not count when it is judged", "asks 1 1 15 15; bars 0 2; part 0 NONE NONE; part 1 NONE NONE; join 1 0 0; change 0 1 2 0; change 1 0 0 0; judge 0 = 1; count 2 = 1");
    }

    /** Licence 1 of parts 1 and 2 is barred by the product. */
    private static final String TWO_BRING = "asks 1 1 15 15; bars 0 2; part 0 NONE NONE; part 1 NONE NONE; part 1 NONE NONE; join 1 0 0; join 2 0 0;";
    private static final String ONE_BRINGS = "asks 1 1 15 15; bars 0 2; part 0 NONE NONE; part 1 NONE NONE; join 1 0 0;";

    private static void cheapestEmptySet() {
        DUE.steps("there is no QUARREL with no CHANGE", "part 0 NONE NONE; cheapest 0 = 0; change 0 0 1 0 = 0; cheapest 0 = 0; cheapest 3 = 0");
        DUE.steps("NONE: none ends all QUARRELS", ONE_BRINGS + "cheapest 0 = NONE; change 0 1 1 0; cheapest 0 = NONE; change 0 0 0 0; cheapest 0 = NONE; change 0 1 2 100000; cheapest 0 = 4");
        DUE.steps("all QUARRELS: one of two is not enough", TWO_BRING + "change 1 0 0 1; cheapest 0 = NONE; change 1 1 0 1; cheapest 0 = 3");
        DUE.steps("by s", "asks 1 1 4 15; bars 0 2; part 0 NONE NONE; part 1 NONE NONE; join 1 0 0; cheapest 0 = 0; cheapest 1 = 0; cheapest 2 = NONE; cheapest 3 = 0; change 1 0 0 0; cheapest 2 = 1; cheapest 3 = 0");
    }

    private static void cheapestLeastPrice() {
        DUE.steps("that of least price in all", ONE_BRINGS + "change 1 0 0 100000; cheapest 0 = 1; change 0 1 2 99999; cheapest 0 = 2; change 0 0 2 1; cheapest 0 = 4; change 0 1 3 0; cheapest 0 = 8");
        DUE.steps("least price in all, though more CHANGES", TWO_BRING + "change 0 0 2 10; change 1 0 0 4; change 1 1 0 5; cheapest 0 = 6; price 6 = 9; price 1 = 10");
        DUE.steps("whatever its CHOICES", "asks 1 1 15 15; bars 0 2; part 0 NONE NONE; part 1 2 NONE; join 1 0 0; change 0 1 7 3; cheapest 0 = 1; look 1 0 = 1; look 1 1 = 2");
        DUE.steps("it is that which it has TAKEN then: it brings and bars as that", ONE_BRINGS + "asks 3 1 15 15; change 0 1 3 1; cheapest 0 = NONE; bars 4 2; change 0 0 4 1; cheapest 0 = NONE; change 0 0 1 1; cheapest 0 = 4");
        DUE.steps("an EXCEPTION of the new LICENCE", ONE_BRINGS + "asks 3 1 15 15; except 1 3 1; change 0 1 3 1; cheapest 0 = 1");
        DUE.steps("(what is TAKEN else staying)", "asks 1 1 15 15; bars 0 2; part 0 2 NONE; part 1 2 NONE; join 1 0 0; change 0 1 1 0; cheapest 0 = NONE; take 1 1; cheapest 0 = 0");
    }

    private static void cheapestFewest() {
        DUE.steps("of like ones with fewest CHANGES", TWO_BRING + "change 1 0 0 5; change 1 1 0 5; change 0 0 2 10; cheapest 0 = 4");
        DUE.steps("of like ones with fewest CHANGES: at price 0", TWO_BRING + "change 1 0 0 0; change 1 1 0 0; cheapest 0 = 3; change 0 0 0 0; cheapest 0 = 3; change 0 0 2 0; cheapest 0 = 8");
        DUE.steps("a CHANGE at price 0 that is of no use is not in it", ONE_BRINGS + "change 0 0 0 0; change 1 0 0 0; change 0 1 1 0; cheapest 0 = 2");
    }

    private static void cheapestLowestNumber() {
        DUE.steps("the CHANGE of the lowest number in which two differ: 0 and 9", ONE_BRINGS + "change 1 0 0 7;" + "change 0 1 1 0;".repeat(8) + "change 0 0 2 7 = 9; cheapest 0 = 1");
        DUE.steps("the CHANGE of the lowest number in which two differ: 8 and 9", ONE_BRINGS + "change 0 1 1 7;".repeat(8) + "change 0 1 2 7 = 8; change 0 1 2 7 = 9; cheapest 0 = 256");
        // {0, 9} and {1, 2} are all: either both joins are cut, or the product and part 3 change.
        String four = "asks 1 1 15 15; asks 2 2 15 15; asks 4 4 15 15; bars 0 6; bars 5 16; part 0 NONE NONE; part 1 NONE NONE; part 2 NONE NONE; part 4 NONE NONE; join 1 0 0; join 2 0 0; join 3 0 0;";
        String between = "change 0 3 4 1;".repeat(6);
        DUE.steps("of {0, 9} and {1, 2} that which has 0", four + "change 1 0 0 1; change 0 0 5 1; change 0 3 6 1;" + between + "change 1 1 0 1 = 9; cheapest 0 = 513; price 513 = 2; price 6 = 2");
        DUE.steps("of {0, 2} and {1, 9} that which has 0", four + "change 1 0 0 1; change 0 0 5 1; change 1 1 0 1;" + between + "change 0 3 6 1 = 9; cheapest 0 = 5");
        DUE.steps("of {0, 1} and {0, 2} that which has 1", TWO_BRING + "change 1 0 0 1; change 1 1 0 1; change 0 2 2 1; cheapest 0 = 3");
        DUE.steps("of {0, 2} and {1, 2} that which has 0", TWO_BRING + "change 1 0 0 1; change 0 1 2 1; change 1 1 0 1; cheapest 0 = 5");
    }

    private static void changesOfOnePart() {
        DUE.steps("of several CHANGES of one PART in a set the highest number counts", ONE_BRINGS + "change 0 1 2 5; change 0 1 1 0; cheapest 0 = 1; change 0 1 3 4; cheapest 0 = 4; price 5 = 9; price 7 = 9");
        DUE.steps("two CHANGES of one JOIN are two prices", ONE_BRINGS + "change 1 0 0 5; change 1 0 0 4; cheapest 0 = 2; price 3 = 9");
    }

    private static void cheapestCutsJoins() {
        DUE.steps("a JOIN is CUT: nothing goes along it", ONE_BRINGS + "change 1 0 0 3; cheapest 0 = 1");
        DUE.steps("a JOIN is CUT: what was IN it is not OF THE PRODUCT then", "asks 1 1 15 15; bars 0 2; part 3 NONE NONE; part 0 NONE NONE; part 1 NONE NONE; join 2 1 0; join 1 0 0; quarrels 0 = 1; change 1 1 0 3; cheapest 0 = 1");
        DUE.steps("one that was CUT already changes nothing", ONE_BRINGS + "cut 0; join 1 0 1 = 1; change 1 0 0 0 = 0; cheapest 0 = NONE; change 1 1 0 9 = 1; cheapest 0 = 2; cut 1; cheapest 0 = 0; change 1 1 0 0 = 2");
        DUE.steps("one that was CUT after the CHANGE was told changes nothing", ONE_BRINGS + "change 1 0 0 0 = 0; cheapest 0 = 1; cut 0; cheapest 0 = 0; join 1 0 0 = 1; cheapest 0 = NONE");
        StringBuilder all = new StringBuilder("asks 1 1 15 15; bars 0 2;" + "part 2 NONE NONE;".repeat(22) + "part 0 NONE NONE; part 1 NONE NONE; product 22;");
        for (int j = 0; j < 39; j++) all.append(Scene.row("join", 0, 22, 0)).append(Scene.row("cut", j));
        DUE.go(Scene.of(all + "join 23 22 0").make(), "JOIN 39 is CUT, PART 23 gets a LICENCE", "quarrels 0 = 1; change 1 38 0 0; cheapest 0 = NONE; change 1 39 0 2; cheapest 0 = 2; change 0 23 7 1; cheapest 0 = 4");
    }

    private static void cheapestChangesNothing() {
        Scene scene = Scene.of(TWO_BRING + "change 1 0 0 1; change 0 2 5 1; change 0 0 7 9");
        DUE.is("THE CHEAPEST", scene.make().cheapest(0), 3);
        DUE.holds("nothing is changed by asking", scene.state().equals(State.of(scene, Call.all("cheapest 0; cheapest 1; cheapest 2; cheapest 3"))));
        DUE.holds("nothing is changed by asking, of a full desk", Scene.FULL.state().equals(State.of(Scene.FULL, Call.all("cheapest 0; cheapest 1; cheapest 2; cheapest 3"))));
        String questions = "come 0 0 0; quarrels 1; quarrel 2 0; price 1023; way 0 1 0 0 0; notice 0 0; differ 0 1 0; look 0 2; count 6";
        DUE.holds("nothing is changed by other questions", Scene.FULL.state().equals(State.of(Scene.FULL, Call.all(questions))));
    }

    private static void greatestPrices() {
        StringBuilder all = new StringBuilder("asks 1 1 15 15; bars 0 2; part 0 NONE NONE;" + "part 1 NONE NONE;".repeat(10));
        for (int p = 1; p < 11; p++) all.append(Scene.row("join", p, 0, 0));
        for (int j = 0; j < 10; j++) all.append(Scene.row("change", 1, j, 0, 100000));
        DUE.go(Scene.of(all.toString()).make(), "all ten CHANGES at the highest price", "cheapest 0 = 1023; price 1023 = 1000000; judge 0 = 1; quarrels 0 = 1");
        DUE.steps("the price of a set of CHANGES", "part 0 NONE NONE; price 0 = 0; change 0 0 0 0; change 0 0 0 100000; change 0 0 0 7; price 0 = 0; price 1 = 0; price 2 = 100000; price 3 = 100000; price 4 = 7; price 6 = 100007; price 7 = 100007; price 8 = NONE; price -1 = NONE");
    }

    private static void wayFewest() {
        DUE.steps("as few as can be, though the numbers are higher", "asks 1 1 15 15; part 0 NONE NONE; part 1 NONE NONE; part 2 NONE NONE; part 1 NONE NONE; join 1 2 0; join 2 0 0; way 0 1 1 0 0 = 1; way 0 1 1 0 1 = 2; way 0 1 1 0 2 = 0; way 0 1 1 0 3 = NONE",
            "join 3 0 0; way 0 1 1 0 0 = 3; way 0 1 1 0 1 = 0; way 0 1 1 0 2 = NONE; cut 2; way 0 1 1 0 0 = 1");
        DUE.steps("each IN the next one by a JOIN along which it goes", "asks 1 1 15 1; part 0 NONE NONE; part 1 NONE NONE; part 2 NONE NONE; join 1 0 1; way 0 1 1 0 0 = NONE; join 1 2 0; way 0 1 1 0 0 = NONE; join 2 0 0; way 0 1 1 0 0 = 1; way 0 1 1 0 1 = 2; way 0 1 1 0 2 = 0; way 0 1 1 0 3 = NONE");
        DUE.steps("a JOIN along which it goes: not by one of another KIND, though it leads to a lower PART", "asks 1 1 15 1; part 0 NONE NONE; part 2 NONE NONE; part 2 NONE NONE; part 1 NONE NONE; part 1 NONE NONE; join 3 1 1; join 1 0 0; join 3 2 0; join 2 0 0; join 4 1 0; way 0 1 1 0 0 = 3; way 0 1 1 0 1 = 2; way 0 1 1 0 2 = 0; way 0 1 1 1 0 = 4; except 3 1 1; way 0 1 1 0 0 = 4; way 0 1 1 0 1 = 1");
        DUE.steps("from one that BRINGS it by s", "asks 1 1 4 15; part 0 NONE NONE; part 1 NONE NONE; join 1 0 0; way 0 1 1 0 0 = NONE; way 1 1 1 0 0 = NONE; way 2 1 1 0 0 = 1; way 3 1 1 0 0 = NONE; except 1 1 1; way 2 1 1 0 0 = NONE");
    }

    private static void wayLeast() {
        DUE.steps("of like ones the least: the first PART", "asks 1 1 15 15; part 0 NONE NONE; part 2 NONE NONE; part 2 NONE NONE; part 1 NONE NONE; part 1 NONE NONE; join 4 1 0; join 1 0 0; join 3 2 0; join 2 0 0; way 0 1 1 0 0 = 3; way 0 1 1 0 1 = 2; way 0 1 1 0 2 = 0; way 0 1 1 0 3 = NONE");
        DUE.steps("of like ones the least: the second PART", "asks 1 1 15 15; part 0 NONE NONE; part 2 NONE NONE; part 2 NONE NONE; part 1 NONE NONE; join 3 2 0; join 3 1 0; join 2 0 0; join 1 0 0; way 0 1 1 0 0 = 3; way 0 1 1 0 1 = 1; way 0 1 1 0 2 = 0; cut 3; way 0 1 1 0 1 = 2; join 1 0 2; way 0 1 1 0 1 = 1");
        DUE.steps("of like ones the least: the third PART", "asks 1 1 15 15; part 0 NONE NONE; part 2 NONE NONE; part 2 NONE NONE; part 2 NONE NONE; part 1 NONE NONE; join 4 3 0; join 3 2 0; join 3 1 0; join 2 0 0; join 1 0 0; way 0 1 1 0 0 = 4; way 0 1 1 0 1 = 3; way 0 1 1 0 2 = 1; way 0 1 1 0 3 = 0; way 0 1 1 0 4 = NONE");
        // A longer one through lower numbers is not the way, nor is one that ends elsewhere.
        DUE.steps("the least of those with as few as can be", "asks 1 1 15 15; part 2 NONE NONE; part 2 NONE NONE; part 2 NONE NONE; part 2 NONE NONE; part 1 NONE NONE; join 4 0 0; join 0 1 0; join 1 3 0; join 4 2 0; join 2 3 0; way 0 1 1 3 0 = 4; way 0 1 1 3 1 = 2; way 0 1 1 3 2 = 3; way 0 1 1 3 3 = NONE");
    }

    private static void wayOfOnePart() {
        DUE.steps("a PART that BRINGS it is THE WAY to itself", "asks 1 1 15 15; part 1 NONE NONE; part 1 NONE NONE; join 1 0 0; way 0 1 1 0 0 = 0; way 0 1 1 0 1 = NONE; way 0 1 1 1 0 = 1; except 0 1 1; way 0 1 1 0 0 = 1; way 0 1 1 0 1 = 0; way 0 1 1 0 2 = NONE; way 0 1 1 0 -1 = NONE");
        DUE.steps("THE WAY to a PART that is not OF THE PRODUCT", "asks 1 1 15 15; part 0 NONE NONE; part 0 NONE NONE; part 1 NONE NONE; join 2 1 0; way 0 1 1 1 0 = 2; way 0 1 1 1 1 = 1; way 0 1 1 0 0 = NONE");
    }

    private static void notices() {
        DUE.steps("PARTS that BRING ASK 0: of whatever LICENCE, by numbers", "asks 0 0 15 15; asks 7 0 15 15; asks 3 0 15 15; part 7 NONE NONE; part 3 NONE NONE; part 0 NONE NONE; part 5 NONE NONE; join 1 0 0; join 2 0 0; join 3 0 0; notice 0 0 = 0; notice 0 1 = 1; notice 0 2 = 2; notice 0 3 = NONE; notice 0 -1 = NONE");
        DUE.steps("from which it comes to THE PRODUCT: not along each KIND", "asks 1 0 15 1; part 0 NONE NONE; part 1 NONE NONE; part 1 NONE NONE; part 1 NONE NONE; join 1 0 0; join 2 0 1; join 3 2 0; notice 0 0 = 1; notice 0 1 = NONE; join 3 1 0; notice 0 1 = 3; notice 0 2 = NONE; join 2 1 0; notice 0 1 = 2; notice 0 2 = 3");
        DUE.steps("PARTS that BRING it: no EXCEPTION lifts it", "asks 1 0 15 15; part 1 NONE NONE; part 1 NONE NONE; join 1 0 0; notice 0 0 = 0; except 0 1 0; notice 0 0 = 1; notice 0 1 = NONE; except 1 1 0; notice 0 0 = NONE");
        DUE.steps("to THE PRODUCT: another one", "asks 1 0 15 15; part 1 NONE NONE; part 1 NONE NONE; part 1 NONE NONE; join 1 0 0; notice 0 0 = 0; notice 0 1 = 1; notice 0 2 = NONE; product 1; notice 0 0 = 1; notice 0 1 = NONE; product 2; notice 0 0 = 2; notice 0 1 = NONE");
        DUE.steps("by SHIPPING s", "asks 1 0 4 15; asks 2 0 8 15; part 1 NONE NONE; part 2 NONE NONE; join 1 0 0; notice 0 0 = NONE; notice 1 0 = NONE; notice 2 0 = 0; notice 2 1 = NONE; notice 3 0 = 1; notice 3 1 = NONE; notice 4 0 = NONE; notice -1 0 = NONE");
    }

    private static void differ() {
        DUE.steps("to which unlike ASKS have come, by number", "asks 1 7 1 1; part 0 NONE NONE; part 0 NONE NONE; part 1 NONE NONE; join 2 1 0; join 1 0 0; differ 0 1 0 = 0; differ 0 1 1 = 1; differ 0 1 2 = 2; differ 0 1 3 = NONE; differ 1 0 2 = 2; differ 1 2 0 = NONE; differ 0 0 0 = NONE; differ 3 3 0 = NONE");
        DUE.steps("the i-th PART OF THE PRODUCT", "asks 1 7 1 1; part 0 NONE NONE; part 1 NONE NONE; part 1 NONE NONE; join 1 0 1; differ 0 1 0 = 1; differ 0 1 1 = NONE; product 2; differ 0 1 0 = 2; differ 0 1 1 = NONE; product 0; join 2 1 0; differ 0 1 0 = 1; differ 0 1 1 = 2; differ 0 1 2 = NONE");
        DUE.steps("unlike ASKS: of other LICENCES too", "asks 1 1 1 15; asks 2 1 2 15; part 0 NONE NONE; part 1 NONE NONE; part 2 NONE NONE; join 1 0 0; join 2 0 0; differ 0 1 0 = 0; differ 0 1 1 = 1; differ 0 1 2 = 2; differ 0 1 3 = NONE; differ 2 3 0 = NONE");
        DUE.steps("like ASKS from other PARTS are like", "asks 1 1 15 15; part 0 NONE NONE; part 1 NONE NONE; part 1 NONE NONE; join 1 0 0; join 2 0 0; differ 0 3 0 = NONE; except 1 1 1; differ 0 3 0 = NONE");
    }
}
