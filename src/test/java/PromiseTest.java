/** Every promise of the document by hand: ordinary calls, the edges that it names, wrong calls. */
public final class PromiseTest {
    private static final int NONE = TermsDesk.NONE;
    private static final int LOW = Integer.MIN_VALUE;
    private static final int HIGH = Integer.MAX_VALUE;
    private static int wrong = 0;

    private static void due(String call, int got, int want) {
        if (got == want) return;
        wrong++;
        System.out.println(call + " answered " + got + ", due is " + want);
    }

    private static void due(String call, boolean got, boolean want) {
        due(call, got ? 1 : 0, want ? 1 : 0);
    }

    public static void main(String[] args) {
        newObject();
        asks();
        bars();
        part();
        take();
        join();
        joinLimit();
        cut();
        except();
        product();
        change();
        come();
        comeFromBelowOnly();
        longChains();
        quarrels();
        quarrel();
        judge();
        judgeTies();
        judgeOnlyProduct();
        judgeMostWays();
        cheapest();
        cheapestTies();
        cheapestCuts();
        price();
        way();
        notice();
        differ();
        look();
        count();
        refusedChangesNothing();
        System.out.println(wrong == 0 ? "all answers are as due" : wrong + " answers are not as due");
        if (wrong != 0) System.exit(1);
    }

    /** A desk with parts of one choice each. */
    private static TermsDesk deskOf(int... licences) {
        TermsDesk x = new TermsDesk();
        for (int l : licences) x.part(l, NONE, NONE);
        return x;
    }

    private static void newObject() {
        TermsDesk x = new TermsDesk();
        int[] counts = {0, 0, 0, 0, 0, 0, 1};
        for (int what = 0; what < 7; what++) due("1: count(" + what + ")", x.count(what), counts[what]);
        due("1: part", x.part(0, NONE, NONE), 0);
        due("1: part", x.part(1, NONE, NONE), 1);
        x.join(1, 0, 0);
        for (int s = 0; s < 4; s++) {
            due("1: quarrels", x.quarrels(s), 0);
            due("1: notice", x.notice(s, 0), NONE);
            for (int l = 0; l < 8; l++) due("1: come", x.come(s, 0, l), 0);
        }
        x.asks(1, 1, 15, 15);
        due("1: nothing is barred", x.quarrels(0), 0);
        TermsDesk y = new TermsDesk();
        due("1: another desk is empty", y.count(0), 0);
        y.part(1, NONE, NONE);
        due("1: another desk's licences ask nothing", y.come(0, 0, 1), 0);
    }

    private static void asks() {
        TermsDesk x = deskOf(0, 7);
        x.join(1, 0, 3);
        due("2: highest", x.asks(7, 7, 15, 15), true);
        due("2: come", x.come(3, 0, 7), 128);
        due("2: told again: only shipping 1", x.asks(7, 7, 2, 15), true);
        due("2: come 0", x.come(0, 0, 7), 0);
        due("2: come 1", x.come(1, 0, 7), 128);
        due("2: told again: only kind 2", x.asks(7, 7, 15, 4), true);
        due("2: stays", x.come(1, 0, 7), 0);
        due("2: come to the part itself", x.come(1, 1, 7), 128);
        due("2: lowest", x.asks(0, 0, 0, 0), true);
        int[][] bad = {{8, 0, 0, 0}, {-1, 0, 0, 0}, {0, 8, 0, 0}, {0, -1, 0, 0}, {0, 0, 16, 0}, {0, 0, -1, 0},
            {0, 0, 0, 16}, {0, 0, 0, -1}, {LOW, 0, 0, 0}, {0, HIGH, 0, 0}, {0, 0, HIGH, 0}, {0, 0, 0, LOW}};
        for (int[] a : bad) due("2: wrong asks", x.asks(a[0], a[1], a[2], a[3]), false);
        due("2: a wrong one changes nothing", x.asks(7, 7, 1, 16), false);
        due("2: as before", x.come(1, 1, 7), 128);
        due("2: asked no more", x.asks(7, 7, 0, 15), true);
        due("2: none", x.come(1, 1, 7), 0);
    }

    private static void bars() {
        TermsDesk x = deskOf(3, 1);
        x.join(1, 0, 0);
        x.asks(1, 0, 15, 15);
        x.asks(1, 7, 15, 15);
        due("3: bars(3, 255)", x.bars(3, 255), true);
        due("3: two quarrels", x.quarrels(0), 2);
        due("3: bars(3, 128)", x.bars(3, 128), true);
        due("3: told again: another set", x.quarrels(0), 1);
        due("3: it is that of ask 7", x.quarrel(0, 0), 15);
        due("3: bars(3, 256)", x.bars(3, 256), false);
        due("3: bars(3, -1)", x.bars(3, -1), false);
        due("3: bars(8, 0)", x.bars(8, 0), false);
        due("3: bars(-1, 0)", x.bars(-1, 0), false);
        due("3: bars(LOW, HIGH)", x.bars(LOW, HIGH), false);
        due("3: as before", x.quarrels(0), 1);
        due("3: bars(3, 0)", x.bars(3, 0), true);
        due("3: none", x.quarrels(0), 0);
        x.bars(1, 255);
        due("3: its own asks are no quarrel", x.quarrels(0), 0);
    }

    private static void part() {
        TermsDesk x = new TermsDesk();
        int[][] bad = {{8, NONE, NONE}, {NONE, NONE, NONE}, {NONE, 0, 1}, {0, 8, NONE}, {0, -2, NONE}, {0, 0, NONE},
            {0, NONE, 1}, {0, NONE, 8}, {0, NONE, 0}, {0, 1, 0}, {0, 1, 1}, {1, 1, 0}, {0, 1, 8}, {0, 1, -2},
            {LOW, HIGH, 0}, {0, HIGH, NONE}, {0, 1, LOW}};
        for (int[] a : bad) due("4: wrong part", x.part(a[0], a[1], a[2]), NONE);
        due("4: none was made", x.count(0), 0);
        due("4: one choice", x.part(7, NONE, NONE), 0);
        due("4: two choices", x.part(7, 0, NONE), 1);
        due("4: three choices", x.part(2, 1, 0), 2);
        due("4: the first is taken", x.look(2, 0), 2);
        due("4: its last choice", x.look(2, 7), 0);
        for (int p = 3; p < 24; p++) due("4: part", x.part(p % 8, NONE, NONE), p);
        due("4: 24 are there", x.part(0, NONE, NONE), NONE);
        due("4: 24 are there", x.count(0), 24);
    }

    private static void take() {
        TermsDesk x = new TermsDesk();
        due("5: no part", x.take(0, 0), false);
        x.part(5, 6, 7);
        x.part(5, 6, NONE);
        due("5: it has taken that", x.take(0, 0), false);
        due("5: last", x.take(0, 2), true);
        due("5: licence", x.look(0, 0), 7);
        due("5: again", x.take(0, 2), false);
        due("5: back", x.take(0, 0), true);
        due("5: licence", x.look(0, 0), 5);
        due("5: only two", x.take(1, 2), false);
        due("5: second", x.take(1, 1), true);
        int[][] bad = {{2, 0}, {-1, 0}, {0, 3}, {0, -1}, {LOW, 0}, {HIGH, 0}, {0, LOW}, {0, HIGH}};
        for (int[] a : bad) due("5: wrong take", x.take(a[0], a[1]), false);
        due("5: as before", x.look(0, 0), 5);
        x.asks(6, 2, 15, 15);
        due("5: brings what it has taken", x.come(0, 1, 6), 4);
        x.take(1, 0);
        due("5: brings what it has taken", x.come(0, 1, 6), 0);
    }

    private static void join() {
        TermsDesk x = deskOf(0, 0, 0, 0);
        int[][] bad = {{4, 0, 0}, {0, 4, 0}, {-1, 0, 0}, {0, -1, 0}, {1, 0, 4}, {1, 0, -1}, {0, 0, 0},
            {LOW, 0, 0}, {0, HIGH, 0}, {1, 0, HIGH}};
        for (int[] a : bad) due("6: wrong join", x.join(a[0], a[1], a[2]), NONE);
        due("6: none was told", x.count(1), 0);
        due("6: join", x.join(1, 0, 0), 0);
        due("6: there is one", x.join(1, 0, 3), NONE);
        due("6: 0 would be in itself", x.join(0, 1, 0), NONE);
        due("6: join", x.join(2, 1, 3), 1);
        due("6: join", x.join(3, 2, 1), 2);
        due("6: 0 would be in itself, through several", x.join(0, 3, 0), NONE);
        due("6: 1 would be in itself, through several", x.join(1, 3, 0), NONE);
        due("6: a second way up is no circle", x.join(3, 0, 2), 3);
        due("6: four", x.count(2), 4);
        due("6: a low part above a high one", deskWithLowPartDeep(), 0);
    }

    /** Part 0 is in 2, 2 in 1, and the product is 3, which holds 1: numbers don't tell what is in what. */
    private static int deskWithLowPartDeep() {
        TermsDesk x = deskOf(0, 1, 1, 1);
        x.asks(0, 5, 15, 15);
        x.join(1, 3, 0);
        x.join(2, 1, 0);
        x.join(0, 2, 0);
        x.product(3);
        due("6: it comes all the way", x.come(2, 3, 0), 32);
        return x.way(0, 0, 5, 3, 0);
    }

    private static void joinLimit() {
        TermsDesk x = deskOf(0, 0, 0);
        for (int j = 0; j < 39; j++) {
            due("6: join", x.join(1, 0, 0), j);
            due("7: cut", x.cut(j), true);
        }
        due("6: the last", x.join(1, 0, 0), 39);
        due("6: 40 were told", x.join(2, 0, 0), NONE);
        due("7: the last is cut", x.cut(39), true);
        due("6: cut ones count too", x.join(2, 0, 0), NONE);
        due("6: told", x.count(1), 40);
        due("6: there", x.count(2), 0);
    }

    private static void cut() {
        TermsDesk x = deskOf(0, 1, 1);
        x.asks(1, 1, 15, 15);
        due("7: none", x.cut(0), false);
        x.join(2, 1, 0);
        x.join(1, 0, 0);
        int[] bad = {2, -1, 40, 64, LOW, HIGH};
        for (int j : bad) due("7: wrong cut", x.cut(j), false);
        due("7: cut", x.cut(0), true);
        due("7: cut again", x.cut(0), false);
        due("7: it is gone", x.look(2, 4), 0);
        due("7: part 2 is out", x.look(2, 2), 0);
        due("7: another one stays", x.look(1, 4), 1);
        due("7: the other direction is free now", x.join(1, 2, 0), 2);
        due("7: and this one not", x.join(2, 1, 0), NONE);
        due("7: cut", x.cut(2), true);
        due("7: a new number", x.join(2, 1, 0), 3);
        due("7: cut", x.cut(1), true);
        due("7: nothing comes", x.come(0, 0, 1), 0);
    }

    private static void except() {
        TermsDesk x = deskOf(0, 1, 1);
        x.asks(1, 1, 15, 15);
        x.asks(1, 2, 15, 15);
        x.join(1, 0, 0);
        x.join(2, 1, 0);
        due("8: except", x.except(1, 1, 1), true);
        due("8: it was told", x.except(1, 1, 1), false);
        due("8: it lifts only what the part brings", x.come(0, 1, 1), 6);
        due("8: the other one", x.except(2, 1, 1), true);
        due("8: lifted", x.come(0, 0, 1), 4);
        due("8: lifted", x.come(0, 2, 1), 4);
        int[][] bad = {{3, 0, 0}, {-1, 0, 0}, {0, 8, 0}, {0, -1, 0}, {0, 0, 8}, {0, 0, -1}, {LOW, HIGH, 0}, {0, 0, HIGH}};
        for (int[] a : bad) due("8: wrong except", x.except(a[0], a[1], a[2]), false);
        due("8: of a licence that it has not taken", x.except(0, 7, 7), true);
        due("8: it was told", x.except(0, 7, 7), false);
        due("8: highest pair of another part", x.except(1, 7, 7), true);
    }

    private static void product() {
        TermsDesk x = new TermsDesk();
        due("9: no parts", x.product(0), false);
        x.part(0, NONE, NONE);
        x.part(1, NONE, NONE);
        x.join(1, 0, 0);
        due("9: 0 at first", x.count(5), 0);
        due("9: of it", x.look(1, 2), 1);
        due("9: product", x.product(1), true);
        due("9: product again", x.product(1), true);
        due("9: product", x.count(5), 1);
        due("9: what it is in is not of it", x.look(0, 2), 0);
        int[] bad = {2, -1, LOW, HIGH};
        for (int p : bad) due("9: wrong product", x.product(p), false);
        due("9: as before", x.count(5), 1);
    }

    private static void change() {
        TermsDesk x = deskOf(0, 1);
        x.join(1, 0, 0);
        int[][] bad = {{-1, 0, 0, 0}, {2, 0, 0, 0}, {0, 2, 0, 0}, {0, -1, 0, 0}, {0, 0, 8, 0}, {0, 0, -1, 0},
            {1, 1, 0, 0}, {1, -1, 0, 0}, {0, 0, 0, -1}, {0, 0, 0, 100001}, {1, 0, 0, 100001}, {1, 0, 0, LOW}, {HIGH, 0, 0, 0}};
        for (int[] a : bad) due("10: wrong change", x.change(a[0], a[1], a[2], a[3]), NONE);
        due("10: none was told", x.count(4), 0);
        due("10: licence outside its choices", x.change(0, 1, 7, 100000), 0);
        due("10: l is not looked at", x.change(1, 0, LOW, 0), 1);
        x.cut(0);
        due("10: one that was cut already", x.change(1, 0, 99, 5), 2);
        for (int c = 3; c < 10; c++) due("10: change", x.change(0, 0, 0, 1), c);
        due("10: 10 are there", x.change(0, 0, 0, 1), NONE);
        due("10: 10 are there", x.count(4), 10);
        due("10: nothing was changed", x.look(1, 0), 1);
    }

    private static void come() {
        TermsDesk x = deskOf(0, 1, 2, 1);
        x.asks(1, 0, 1, 15);
        x.asks(1, 3, 15, 2);
        x.asks(1, 7, 4, 15);
        x.asks(2, 7, 4, 8);
        x.join(1, 0, 0);
        x.join(2, 1, 3);
        due("11: by 0", x.come(0, 0, 1), 1);
        due("11: by 2", x.come(2, 0, 1), 128);
        due("11: by 1: not along kind 0", x.come(1, 0, 1), 0);
        due("11: all at the part itself", x.come(2, 1, 1), 136);
        due("11: along kind 3", x.come(2, 1, 2), 128);
        due("11: and no further along kind 0", x.come(2, 0, 2), 0);
        due("11: a part that is in none", x.come(0, 3, 1), 9);
        due("11: other licences", x.come(0, 0, 0), 0);
        int[][] bad = {{4, 0, 0}, {-1, 0, 0}, {0, 4, 0}, {0, -1, 0}, {0, 0, 8}, {0, 0, -1}, {LOW, 0, 0}, {0, HIGH, 0}, {0, 0, HIGH}};
        for (int[] a : bad) due("11: wrong come", x.come(a[0], a[1], a[2]), NONE);
    }

    private static void comeFromBelowOnly() {
        TermsDesk x = deskOf(0, 1);
        x.asks(0, 1, 15, 15);
        x.join(1, 0, 0);
        due("11: not downwards", x.come(0, 1, 0), 0);
        TermsDesk y = deskOf(0, 1, 1);
        y.asks(1, 1, 15, 1);
        y.join(1, 0, 0);
        y.join(2, 0, 0);
        y.bars(0, 2);
        due("12: from two parts it is one", y.quarrels(0), 1);
    }

    /** As deep as can be, once with the lowest number on top and once with the highest. */
    private static void longChains() {
        for (int turn = 0; turn < 2; turn++) {
            TermsDesk x = new TermsDesk();
            int top = turn == 0 ? 0 : 23;
            int bottom = 23 - top;
            for (int p = 0; p < 24; p++) x.part(p == bottom ? 1 : 0, NONE, NONE);
            x.asks(1, 0, 15, 15);
            for (int p = 0; p < 23; p++) x.join(turn == 0 ? p + 1 : p, turn == 0 ? p : p + 1, p % 4);
            x.product(top);
            due("11: through 23 joins", x.come(0, top, 1), 1);
            due("21: all are of it", x.count(3), 24);
            due("18: the notice comes", x.notice(0, 0), bottom);
            for (int i = 0; i < 24; i++) due("17: the longest way", x.way(0, 1, 0, top, i), turn == 0 ? 23 - i : i);
            due("17: the longest way", x.way(0, 1, 0, top, 24), NONE);
            due("6: a circle of all", x.join(top, bottom, 0), NONE);
        }
    }

    private static void quarrels() {
        TermsDesk x = new TermsDesk();
        due("12: without parts", x.quarrels(3), 0);
        int[] bad = {4, -1, LOW, HIGH};
        for (int s : bad) due("12: no such s", x.quarrels(s), NONE);
        x = quarrelDesk();
        due("12: by 0", x.quarrels(0), 4);
        due("12: by 1", x.quarrels(1), 1);
        due("12: by 3", x.quarrels(3), 0);
        for (int s : bad) due("12: no such s", x.quarrels(s), NONE);
        x.product(1);
        due("12: only parts of the product", x.quarrels(0), 1);
    }

    /** 2 in 1, 1 in 0, 3 in 0; 4 is in none. */
    private static TermsDesk quarrelDesk() {
        TermsDesk x = deskOf(0, 1, 2, 2, 0);
        x.asks(2, 7, 3, 15);
        x.asks(2, 0, 1, 1);
        x.asks(1, 7, 1, 15);
        x.bars(0, 129);
        x.bars(1, 1);
        x.bars(2, 255);
        x.join(2, 1, 0);
        x.join(1, 0, 0);
        x.join(3, 0, 2);
        return x;
    }

    private static void quarrel() {
        TermsDesk x = quarrelDesk();
        int[] rows = {15, 16, 23, 64 + 16, NONE};
        for (int i = 0; i < rows.length; i++) due("13: by 0, " + i, x.quarrel(0, i), rows[i]);
        due("13: by 1", x.quarrel(1, 0), 23);
        due("13: by 1", x.quarrel(1, 1), NONE);
        int[][] bad = {{0, -1}, {0, LOW}, {0, HIGH}, {4, 0}, {-1, 0}, {3, 0}};
        for (int[] a : bad) due("13: none such", x.quarrel(a[0], a[1]), NONE);
        due("13: without parts", new TermsDesk().quarrel(0, 0), NONE);
        TermsDesk y = new TermsDesk();
        for (int p = 0; p < 22; p++) y.part(0, NONE, NONE);
        y.part(6, NONE, NONE);
        y.part(7, NONE, NONE);
        y.asks(7, 7, 15, 15);
        y.bars(6, 128);
        y.join(23, 22, 0);
        y.product(22);
        due("13: highest part, licence and ask", y.quarrel(0, 0), 22 * 64 + 63);
    }

    private static void judge() {
        due("14: no parts", new TermsDesk().judge(0), NONE);
        TermsDesk x = new TermsDesk();
        x.part(0, NONE, NONE);
        x.part(1, 2, 3);
        x.join(1, 0, 0);
        x.asks(1, 1, 15, 15);
        x.asks(2, 1, 2, 15);
        x.asks(3, 2, 15, 15);
        x.bars(0, 2);
        int[] bad = {4, -1, LOW, HIGH};
        for (int s : bad) due("14: no such s", x.judge(s), NONE);
        due("14: nothing is taken", x.look(1, 0), 1);
        due("14: by 0", x.judge(0), 0);
        due("14: 2 brings fewest", x.look(1, 0), 2);
        due("14: by 1", x.judge(1), 0);
        due("14: 3 is barred least", x.look(1, 0), 3);
        x.bars(0, 6);
        due("14: all quarrel", x.judge(1), 1);
        due("14: the first of like ones", x.look(1, 0), 1);
    }

    private static void judgeTies() {
        // Fewer quarrels go before fewer pairs that come to the product.
        TermsDesk x = new TermsDesk();
        x.part(0, NONE, NONE);
        x.part(1, 2, NONE);
        x.join(1, 0, 0);
        x.asks(1, 1, 15, 15);
        x.asks(2, 2, 15, 15);
        x.asks(2, 3, 15, 15);
        x.bars(0, 2);
        due("14: no quarrel, two pairs", x.judge(0), 0);
        due("14: no quarrel, two pairs", x.look(1, 0), 2);
        // The least row goes by the parts' numbers, not by what is in what: 0 may keep its first.
        TermsDesk y = new TermsDesk();
        y.part(1, 2, NONE);
        y.part(0, NONE, NONE);
        y.part(1, 2, NONE);
        y.join(0, 2, 0);
        y.join(2, 1, 0);
        y.product(1);
        y.asks(1, 1, 15, 15);
        y.bars(2, 2);
        y.asks(2, 2, 15, 15);
        y.bars(1, 4);
        y.take(0, 1);
        due("14: both alike", y.judge(0), 0);
        due("14: both the first", y.look(0, 0), 1);
        due("14: both the first", y.look(2, 0), 1);
        // 0 holds the product's only ask: one of 0 and 2 must change, and the row (0, 1) is less than (1, 0).
        TermsDesk z = new TermsDesk();
        z.part(1, 2, NONE);
        z.part(0, NONE, NONE);
        z.part(3, 4, NONE);
        z.join(0, 1, 0);
        z.join(2, 0, 0);
        z.product(1);
        z.asks(1, 5, 15, 15);
        z.asks(2, 6, 15, 15);
        z.asks(3, 3, 15, 15);
        z.asks(4, 4, 15, 15);
        z.bars(1, 8);
        z.bars(2, 16);
        z.take(0, 1);
        due("14: two rows are without quarrels", z.judge(0), 0);
        due("14: the least row", z.look(0, 0), 1);
        due("14: the least row", z.look(2, 0), 4);
    }

    private static void judgeOnlyProduct() {
        TermsDesk x = new TermsDesk();
        x.part(0, 1, NONE);
        for (int p = 1; p < 24; p++) x.part(2, 3, 4);
        for (int p = 1; p < 24; p++) x.take(p, 1);
        due("14: others stay", x.judge(0), 0);
        for (int p = 1; p < 24; p++) due("14: others stay", x.look(p, 0), 3);
        for (int p = 1; p < 8; p++) x.join(p, 0, 0);
        due("21: ways", x.count(6), 2 * 2187);
        due("14: as many ways as may be", x.judge(0), 0);
        due("14: taken", x.look(7, 0), 2);
        x.join(8, 0, 0);
        due("21: too many ways", x.count(6), NONE);
        x.take(0, 1);
        due("14: more than 6561 ways", x.judge(0), NONE);
        due("14: nothing is taken", x.look(0, 0), 1);
        due("14: nothing is taken", x.look(8, 0), 3);
        for (int p = 9; p < 24; p++) x.join(p, 0, 0);
        due("21: 3 to the 23rd ways, twice", x.count(6), NONE);
        due("14: more than 6561 ways", x.judge(0), NONE);
    }

    private static void judgeMostWays() {
        TermsDesk x = new TermsDesk();
        for (int p = 0; p < 8; p++) x.part(2 * p % 6, 6, 7);
        for (int p = 1; p < 8; p++) x.join(p, p - 1, 0);
        for (int l = 0; l < 7; l++) x.asks(l, 1, 15, 15);
        due("21: as many ways as may be", x.count(6), 6561);
        due("14: as many ways as may be", x.judge(0), 0);
        for (int p = 0; p < 8; p++) due("14: the last of all ways is the best", x.look(p, 0), 7);
        x.bars(7, 255);
        x.asks(7, 1, 15, 15);
        x.asks(6, 1, 0, 15);
        due("14: judged again", x.judge(0), 0);
        for (int p = 0; p < 8; p++) due("14: another one is the best", x.look(p, 0), 6);
    }

    private static void cheapest() {
        due("15: without parts", new TermsDesk().cheapest(0), 0);
        TermsDesk x = deskOf(0, 1);
        x.join(1, 0, 0);
        x.asks(1, 1, 7, 15);
        x.bars(0, 2);
        int[] bad = {4, -1, LOW, HIGH};
        for (int s : bad) due("15: no such s", x.cheapest(s), NONE);
        due("15: no changes", x.cheapest(0), NONE);
        due("15: no quarrel by 3", x.cheapest(3), 0);
        x.change(0, 0, 0, 0);
        due("15: none ends it", x.cheapest(0), NONE);
        x.change(0, 1, 2, 10);
        due("15: one ends it", x.cheapest(0), 2);
        x.change(1, 0, 0, 9);
        due("15: a cheaper one", x.cheapest(0), 4);
        due("15: nothing is changed", x.look(1, 0), 1);
        due("15: nothing is changed", x.count(2), 1);
        due("15: nothing is changed", x.quarrels(0), 1);
        x.except(1, 1, 1);
        due("15: no quarrel any more", x.cheapest(0), 0);
        due("15: the new licence brings its own asks", newLicenceQuarrels(), NONE);
    }

    private static int newLicenceQuarrels() {
        TermsDesk x = deskOf(0, 1);
        x.join(1, 0, 0);
        x.asks(1, 1, 15, 15);
        x.asks(2, 1, 15, 15);
        x.bars(0, 2);
        x.change(0, 1, 2, 1);
        int first = x.cheapest(0);
        x.except(1, 2, 1);
        due("15: an exception of the new licence counts", x.cheapest(0), 1);
        return first;
    }

    private static void cheapestTies() {
        // Fewest changes: 2 costs what 0 and 1 do together.
        TermsDesk x = deskOf(0, 1, 1);
        x.join(1, 0, 0);
        x.join(2, 0, 0);
        x.asks(1, 1, 15, 15);
        x.bars(0, 2);
        x.change(1, 0, 0, 5);
        x.change(1, 1, 0, 5);
        x.change(0, 0, 3, 10);
        due("15: fewest changes", x.cheapest(0), 4);
        x.change(0, 0, 4, 10);
        due("15: the lowest number in which two differ", x.cheapest(0), 4);
        x.change(0, 1, 2, 5);
        x.change(0, 2, 2, 5);
        x.change(0, 0, 0, 0);
        due("15: a change of no use is left out", x.cheapest(0), 4);
        TermsDesk y = deskOf(0, 1, 1);
        y.join(1, 0, 0);
        y.join(2, 0, 0);
        y.asks(1, 1, 15, 15);
        y.bars(0, 2);
        y.change(1, 0, 0, 3);
        y.change(0, 1, 2, 1);
        y.change(0, 2, 2, 3);
        y.change(1, 1, 0, 1);
        due("15: {0, 3} costs 4, {1, 3} 2", y.cheapest(0), 10);
        TermsDesk z = deskOf(0, 1, 1);
        z.join(1, 0, 0);
        z.join(2, 0, 0);
        z.asks(1, 1, 15, 15);
        z.bars(0, 2);
        z.change(1, 0, 0, 1);
        z.change(0, 2, 2, 1);
        z.change(0, 1, 2, 1);
        z.change(1, 1, 0, 1);
        due("15: of {0,1}, {0,3}, {1,2}, {2,3} the first", z.cheapest(0), 3);
        due("15: of {0,3} and {1,2} that with 0", lowestNumberWins(), 9);
    }

    /** Either both joins are cut, or the product and part 3 change; no other two changes do. */
    private static int lowestNumberWins() {
        TermsDesk x = deskOf(0, 1, 2, 4);
        for (int p = 1; p < 4; p++) x.join(p, 0, 0);
        x.asks(1, 1, 15, 15);
        x.asks(2, 2, 15, 15);
        x.asks(4, 4, 15, 15);
        x.bars(0, 6);
        x.bars(5, 16);
        x.change(1, 0, 0, 1);
        x.change(0, 0, 5, 1);
        x.change(0, 3, 6, 1);
        x.change(1, 1, 0, 1);
        return x.cheapest(0);
    }

    private static void cheapestCuts() {
        // A part that is cut off is not of the product any more: its own quarrel is none then.
        TermsDesk x = deskOf(3, 0, 1);
        x.join(2, 1, 0);
        x.join(1, 0, 0);
        x.asks(1, 1, 15, 15);
        x.bars(0, 2);
        x.change(1, 1, 0, 4);
        due("15: cut off", x.cheapest(0), 1);
        // Of several changes of one part the highest number counts.
        TermsDesk y = deskOf(0, 1);
        y.join(1, 0, 0);
        y.asks(1, 1, 15, 15);
        y.bars(0, 2);
        y.change(0, 1, 1, 0);
        y.change(0, 1, 2, 7);
        due("15: change 1 counts", y.cheapest(0), 2);
        y.change(0, 1, 1, 0);
        due("15: with change 2 it would be as before", y.cheapest(0), 2);
        y.cut(0);
        due("15: without the join", y.cheapest(0), 0);
        TermsDesk z = deskOf(0, 1);
        z.join(1, 0, 0);
        z.cut(0);
        z.join(1, 0, 0);
        z.asks(1, 1, 15, 15);
        z.bars(0, 2);
        z.change(1, 0, 0, 0);
        due("15: one that was cut already changes nothing", z.cheapest(0), NONE);
        due("15: all ten changes", tenChanges(), 1023);
    }

    private static int tenChanges() {
        TermsDesk x = deskOf(0, 1, 1, 1, 1, 1, 1, 1, 1, 1, 1);
        x.asks(1, 1, 15, 15);
        x.bars(0, 2);
        for (int p = 1; p < 11; p++) x.join(p, 0, 0);
        for (int j = 0; j < 10; j++) x.change(1, j, 0, 100000);
        return x.cheapest(0);
    }

    private static void price() {
        TermsDesk x = deskOf(0);
        due("16: empty set", x.price(0), 0);
        due("16: no changes", x.price(1), NONE);
        x.change(0, 0, 1, 0);
        x.change(0, 0, 1, 20);
        x.change(0, 0, 2, 300);
        due("16: price", x.price(7), 320);
        due("16: price", x.price(5), 300);
        due("16: price", x.price(1), 0);
        int[] bad = {8, 9, -1, LOW, HIGH};
        for (int set : bad) due("16: no such ones", x.price(set), NONE);
        TermsDesk y = deskOf(0);
        for (int c = 0; c < 10; c++) y.change(0, 0, 1, 100000);
        due("16: the highest", y.price(1023), 1000000);
        due("16: 10 is none", y.price(1024), NONE);
    }

    private static void way() {
        TermsDesk x = deskOf(0, 2, 2, 2, 2, 1, 1);
        x.asks(1, 4, 15, 3);
        x.join(5, 4, 0);
        x.join(5, 2, 0);
        x.join(4, 0, 0);
        x.join(2, 0, 1);
        x.join(6, 3, 0);
        x.join(3, 1, 0);
        x.join(1, 0, 0);
        int[] rows = {5, 2, 0, NONE};
        for (int i = 0; i < rows.length; i++) due("17: the least of like ones, " + i, x.way(0, 1, 4, 0, i), rows[i]);
        due("17: to the part itself", x.way(0, 1, 4, 6, 0), 6);
        due("17: to the part itself", x.way(0, 1, 4, 6, 1), NONE);
        x.join(6, 0, 0);
        due("17: as few as can be", x.way(0, 1, 4, 0, 0), 6);
        due("17: as few as can be", x.way(0, 1, 4, 0, 1), 0);
        x.cut(7);
        x.join(6, 0, 2);
        due("17: not along kind 2", x.way(0, 1, 4, 0, 0), 5);
        x.except(5, 1, 4);
        int[] longer = {6, 3, 1, 0, NONE};
        for (int i = 0; i < longer.length; i++) due("17: a longer one, " + i, x.way(0, 1, 4, 0, i), longer[i]);
        int[][] bad = {{4, 1, 4, 0, 0}, {-1, 1, 4, 0, 0}, {0, 8, 4, 0, 0}, {0, -1, 4, 0, 0}, {0, 1, 8, 0, 0}, {0, 1, -1, 0, 0},
            {0, 1, 4, 7, 0}, {0, 1, 4, -1, 0}, {0, 1, 4, 0, -1}, {0, 1, 4, 0, LOW}, {0, 1, 4, 0, HIGH}, {0, 1, 3, 0, 0}, {0, 1, 4, 5, 0}};
        for (int[] a : bad) due("17: none such", x.way(a[0], a[1], a[2], a[3], a[4]), NONE);
        due("17: the first part goes before the others", leastFirst(), 4);
    }

    private static int leastFirst() {
        TermsDesk x = deskOf(0, 2, 2, 2, 1, 1);
        x.asks(1, 4, 15, 15);
        x.join(4, 3, 0);
        x.join(3, 0, 0);
        x.join(5, 1, 0);
        x.join(1, 0, 0);
        return x.way(0, 1, 4, 0, 0);
    }

    private static void notice() {
        due("18: without parts", new TermsDesk().notice(0, 0), NONE);
        TermsDesk x = deskOf(1, 2, 1, 2, 3, 1);
        x.asks(1, 0, 15, 1);
        x.asks(2, 0, 1, 2);
        x.asks(3, 1, 15, 15);
        x.join(1, 0, 1);
        x.join(2, 1, 0);
        x.join(3, 0, 1);
        x.join(4, 0, 0);
        int[] rows = {0, 1, 3, NONE};
        for (int i = 0; i < rows.length; i++) due("18: notice " + i, x.notice(0, i), rows[i]);
        due("18: by 1", x.notice(1, 0), 0);
        due("18: by 1", x.notice(1, 1), NONE);
        x.except(1, 2, 0);
        due("18: lifted", x.notice(0, 1), 3);
        x.join(2, 0, 0);
        due("18: another way up", x.notice(0, 1), 2);
        x.product(1);
        due("18: to another product", x.notice(0, 0), 2);
        due("18: to another product", x.notice(0, 1), NONE);
        int[][] bad = {{4, 0}, {-1, 0}, {0, -1}, {0, LOW}, {0, HIGH}, {HIGH, 0}};
        for (int[] a : bad) due("18: none such", x.notice(a[0], a[1]), NONE);
        // The notice of its own licence must come from the part, not that of a part of the same licence.
        TermsDesk y = deskOf(0, 1, 1);
        y.asks(1, 0, 15, 1);
        y.join(1, 0, 0);
        y.join(2, 1, 3);
        due("18: only that from which it comes", y.notice(0, 0), 1);
        due("18: only that from which it comes", y.notice(0, 1), NONE);
    }

    private static void differ() {
        due("19: without parts", new TermsDesk().differ(0, 1, 0), NONE);
        TermsDesk x = deskOf(0, 1, 2, 3, 1);
        x.asks(1, 1, 3, 15);
        x.asks(2, 1, 1, 1);
        x.asks(3, 7, 2, 2);
        x.join(1, 0, 0);
        x.join(2, 1, 0);
        x.join(3, 0, 0);
        int[] rows = {0, 1, 2, 3, NONE};
        for (int i = 0; i < rows.length; i++) {
            due("19: " + i, x.differ(0, 1, i), rows[i]);
            due("19: the other way round " + i, x.differ(1, 0, i), rows[i]);
        }
        due("19: like", x.differ(2, 3, 0), NONE);
        due("19: with itself", x.differ(0, 0, 0), NONE);
        due("19: only parts of the product: 4 is none", x.differ(0, 2, 3), NONE);
        int[][] bad = {{4, 0, 0}, {0, 4, 0}, {-1, 0, 0}, {0, -1, 0}, {0, 1, -1}, {0, 1, LOW}, {0, 1, HIGH}, {HIGH, LOW, 0}};
        for (int[] a : bad) due("19: none such", x.differ(a[0], a[1], a[2]), NONE);
        // Ask 1 of one licence is not ask 1 of another one.
        TermsDesk y = deskOf(0, 1, 2);
        y.asks(1, 1, 1, 15);
        y.asks(2, 1, 2, 15);
        y.join(1, 0, 0);
        y.join(2, 0, 0);
        due("19: of other licences", y.differ(0, 1, 0), 0);
    }

    private static void look() {
        TermsDesk x = new TermsDesk();
        x.part(3, 4, NONE);
        x.part(5, 6, 7);
        x.part(1, NONE, NONE);
        x.join(1, 0, 0);
        x.join(2, 0, 0);
        x.join(2, 1, 0);
        x.cut(1);
        x.take(1, 2);
        int[][] rows = {{3, 2, 1, 1, 0, 3, 4, NONE, NONE}, {7, 3, 1, 1, 1, 5, 6, 7, NONE}, {1, 1, 1, 0, 1, 1, NONE, NONE, NONE}};
        for (int p = 0; p < 3; p++)
            for (int what = 0; what < 9; what++) due("20: look(" + p + ", " + what + ")", x.look(p, what), rows[p][what]);
        x.product(1);
        due("20: not of the product", x.look(0, 2), 0);
        due("20: of the product", x.look(2, 2), 1);
        int[][] bad = {{3, 0}, {-1, 0}, {LOW, 0}, {HIGH, 0}, {0, -1}, {0, LOW}, {0, HIGH}, {0, 8}};
        for (int[] a : bad) due("20: none such", x.look(a[0], a[1]), NONE);
    }

    private static void count() {
        TermsDesk x = new TermsDesk();
        x.part(3, 4, NONE);
        x.part(5, 6, 7);
        x.part(1, NONE, NONE);
        x.part(1, 2, NONE);
        x.join(1, 0, 0);
        x.join(2, 0, 0);
        x.cut(1);
        x.join(3, 1, 0);
        x.change(0, 0, 1, 1);
        int[] rows = {4, 3, 2, 3, 1, 0, 12};
        for (int what = 0; what < 7; what++) due("21: count(" + what + ")", x.count(what), rows[what]);
        x.product(1);
        due("21: of it", x.count(3), 2);
        due("21: product", x.count(5), 1);
        due("21: ways", x.count(6), 6);
        int[] bad = {7, -1, LOW, HIGH};
        for (int what : bad) due("21: none such", x.count(what), NONE);
    }

    /** Many wrong calls at once: every answer about the desk is as before. */
    private static void refusedChangesNothing() {
        TermsDesk x = quarrelDesk();
        x.change(0, 2, 1, 5);
        String before = tellAll(x);
        x.asks(2, 7, 16, 0);
        x.asks(2, 7, 0, -1);
        x.bars(0, -1);
        x.bars(0, 256);
        x.part(0, NONE, 2);
        x.part(0, 1, 1);
        x.take(0, 1);
        x.take(0, 0);
        x.join(0, 2, 0);
        x.join(1, 0, 3);
        x.join(4, 0, 4);
        x.cut(3);
        x.cut(-1);
        x.except(5, 2, 7);
        x.except(2, 8, 7);
        x.product(5);
        x.product(-1);
        x.change(0, 5, 0, 0);
        x.change(0, 0, 8, 0);
        x.change(1, 3, 0, 0);
        x.judge(4);
        x.cheapest(4);
        x.cheapest(0);
        due("a refused call changes nothing", before.equals(tellAll(x)), true);
    }

    private static String tellAll(TermsDesk x) {
        StringBuilder all = new StringBuilder();
        int parts = x.count(0);
        for (int what = 0; what < 7; what++) all.append(x.count(what)).append(' ');
        for (int p = 0; p < parts; p++)
            for (int what = 0; what < 8; what++) all.append(x.look(p, what)).append(' ');
        for (int s = 0; s < 4; s++) {
            for (int p = 0; p < parts; p++)
                for (int l = 0; l < 8; l++) all.append(x.come(s, p, l)).append(' ');
            all.append(x.quarrels(s)).append(' ').append(x.cheapest(s)).append(' ');
        }
        return all.append(x.price(1)).toString();
    }
}
