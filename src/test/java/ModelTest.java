import java.util.Arrays;
import java.util.Random;

/** Long runs of calls, good and wrong ones, on TermsDesk and on the plain Model: like answers are due. */
public final class ModelTest {
    private static final int[] ODD = {-1, 8, 24, 40, 256, 100001, Integer.MIN_VALUE, Integer.MAX_VALUE, -2, 3, 7};
    /** An object is good for 512 calls; one step here makes 25 at most. */
    private static final int LAST_STEP = 512 - 25;
    private static int wrong = 0;

    private final int run;
    private final Random random;
    private final TermsDesk desk = new TermsDesk();
    private final Model model = new Model();
    /** How many licences, asks, parts and kinds this run keeps to, and how often it has choices. */
    private final int licences;
    private final int asks;
    private final int parts;
    private final int kinds;
    private final int choiceOdds;
    private final int prices;
    private int calls = 0;

    private ModelTest(int run) {
        this.run = run;
        random = new Random(run);
        licences = 2 + random.nextInt(run % 3 == 0 ? 7 : 3);
        asks = 1 + random.nextInt(run % 3 == 0 ? 8 : 3);
        parts = 1 + random.nextInt(run % 4 == 0 ? 24 : 9);
        kinds = 1 + random.nextInt(4);
        choiceOdds = run % 4 == 0 ? 20 : 60;
        prices = run % 2 == 0 ? 3 : 100001;
    }

    public static void main(String[] args) {
        for (int run = 0; run < 800; run++) {
            new ModelTest(run).play();
        }
        System.out.println(wrong == 0 ? "all answers are as due" : wrong + " answers are not as due");
        if (wrong != 0) System.exit(1);
    }

    private void play() {
        for (int k = 0; k < 10; k++) call(0);
        for (int k = 0; k < 4; k++) call(1);
        for (int k = 0; k < parts; k++) call(2);
        for (int k = 0; k < 2 * parts; k++) call(4);
        for (int k = 0; k < 300; k++) call(random.nextInt(20));
    }

    /** Mostly a number below the bound, now and then an odd one. */
    private int pick(int bound) {
        if (random.nextInt(60) == 0) return ODD[random.nextInt(ODD.length)];
        if (random.nextInt(60) == 0) return bound;
        return random.nextInt(Math.max(1, bound));
    }

    private boolean chance(int percent) {
        return random.nextInt(100) < percent;
    }

    private void call(int which) {
        if (calls > LAST_STEP) return;
        int[] a;
        switch (which) {
            case 0 -> { a = row(pick(licences), pick(asks), pick(16), chance(50) ? 15 : pick(16));
                due("asks", a, desk.asks(a[0], a[1], a[2], a[3]), model.asks(a[0], a[1], a[2], a[3])); }
            case 1 -> { a = row(pick(licences), pick(256));
                due("bars", a, desk.bars(a[0], a[1]), model.bars(a[0], a[1])); }
            case 2 -> {
                if (model.count(0) >= parts && chance(90)) return;
                int b = chance(choiceOdds) ? pick(licences) : -1;
                a = row(pick(licences), b, chance(choiceOdds) && (b != -1 || chance(3)) ? pick(licences) : -1);
                due("part", a, desk.part(a[0], a[1], a[2]), model.part(a[0], a[1], a[2])); }
            case 3 -> { a = row(pick(model.count(0)), pick(3));
                due("take", a, desk.take(a[0], a[1]), model.take(a[0], a[1])); }
            case 4 -> { int x = pick(model.count(0)); int y = pick(model.count(0));
                boolean down = chance(80);
                a = row(down ? Math.max(x, y) : x, down ? Math.min(x, y) : y, pick(kinds));
                due("join", a, desk.join(a[0], a[1], a[2]), model.join(a[0], a[1], a[2])); }
            case 5 -> { a = row(chance(30) ? pick(model.count(1)) : 77);
                due("cut", a, desk.cut(a[0]), model.cut(a[0])); }
            case 6 -> { a = row(pick(model.count(0)), pick(licences), pick(asks));
                due("except", a, desk.except(a[0], a[1], a[2]), model.except(a[0], a[1], a[2])); }
            case 7 -> { a = row(chance(40) ? 0 : pick(model.count(0)));
                due("product", a, desk.product(a[0]), model.product(a[0])); }
            case 8 -> { int what = pick(2);
                a = row(what, pick(model.count(what)), pick(licences), pick(prices));
                if (model.count(4) < 5 + run % 6 || chance(5))
                    due("change", a, desk.change(a[0], a[1], a[2], a[3]), model.change(a[0], a[1], a[2], a[3])); }
            case 9 -> { a = row(pick(4), pick(model.count(0)), pick(licences));
                due("come", a, desk.come(a[0], a[1], a[2]), model.come(a[0], a[1], a[2])); }
            default -> ask(which);
        }
    }

    private void ask(int which) {
        int[] a;
        switch (which) {
            case 10 -> { a = row(pick(4)); due("quarrels", a, desk.quarrels(a[0]), model.quarrels(a[0])); }
            case 11 -> { a = row(pick(4), pick(8)); due("quarrel", a, desk.quarrel(a[0], a[1]), model.quarrel(a[0], a[1])); }
            case 12 -> { a = row(pick(4));
                // The plain model is too slow to judge every time that there are many ways.
                if (model.ways() < 300 || chance(3)) {
                    due("judge", a, desk.judge(a[0]), model.judge(a[0]));
                    for (int p = 0; p < model.count(0); p++) look(p, 0);
                } }
            case 13 -> { a = row(pick(4));
                if (chance(40)) due("cheapest", a, desk.cheapest(a[0]), model.cheapest(a[0])); }
            case 14 -> { a = row(pick(1 << model.count(4))); due("price", a, desk.price(a[0]), model.price(a[0])); }
            case 15 -> { a = row(pick(4), pick(licences), pick(asks), pick(model.count(0)), pick(4));
                due("way", a, desk.way(a[0], a[1], a[2], a[3], a[4]), model.way(a[0], a[1], a[2], a[3], a[4])); }
            case 16 -> { a = row(pick(4), pick(4)); due("notice", a, desk.notice(a[0], a[1]), model.notice(a[0], a[1])); }
            case 17 -> { a = row(pick(4), pick(4), pick(5));
                due("differ", a, desk.differ(a[0], a[1], a[2]), model.differ(a[0], a[1], a[2])); }
            case 18 -> look(pick(model.count(0)), pick(8));
            default -> { a = row(pick(7)); due("count", a, desk.count(a[0]), model.count(a[0])); }
        }
    }

    private void look(int p, int what) {
        due("look", row(p, what), desk.look(p, what), model.look(p, what));
    }

    private static int[] row(int... a) {
        return a;
    }

    private void due(String name, int[] a, boolean got, boolean want) {
        due(name, a, got ? 1 : 0, want ? 1 : 0);
    }

    private void due(String name, int[] a, int got, int want) {
        calls++;
        if (got == want) return;
        wrong++;
        if (wrong <= 20) System.out.println("run " + run + ": " + name + Arrays.toString(a) + " answered " + got + ", due is " + want);
    }
}
