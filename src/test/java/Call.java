import java.util.ArrayList;
import java.util.List;

/** One call of the face, such as "join 1 0 3"; a boolean answer counts 1 or 0. */
record Call(String name, int[] args) {
    /** NONE, MIN and MAX stand for -1, the least and the greatest int. */
    static Call of(String text) {
        String[] words = text.trim().split("\\s+");
        int[] args = new int[words.length - 1];
        for (int k = 0; k < args.length; k++) args[k] = number(words[k + 1]);
        return new Call(words[0], args);
    }

    /** Several calls, divided by ';'. */
    static List<Call> all(String text) {
        List<Call> calls = new ArrayList<>();
        for (String one : text.split(";")) if (!one.isBlank()) calls.add(of(one));
        return calls;
    }

    static int number(String word) {
        return switch (word) {
            case "NONE" -> -1;
            case "MIN" -> Integer.MIN_VALUE;
            case "MAX" -> Integer.MAX_VALUE;
            case "true" -> 1;
            case "false" -> 0;
            default -> Integer.parseInt(word);
        };
    }

    Call with(int k, int value) {
        int[] others = args.clone();
        others[k] = value;
        return new Call(name, others);
    }

    private int a(int k) {
        return args[k];
    }

    int on(TermsDesk x) {
        return switch (name) {
            case "asks" -> bit(x.asks(a(0), a(1), a(2), a(3)));
            case "bars" -> bit(x.bars(a(0), a(1)));
            case "part" -> x.part(a(0), a(1), a(2));
            case "take" -> bit(x.take(a(0), a(1)));
            case "join" -> x.join(a(0), a(1), a(2));
            case "cut" -> bit(x.cut(a(0)));
            case "except" -> bit(x.except(a(0), a(1), a(2)));
            case "product" -> bit(x.product(a(0)));
            case "change" -> x.change(a(0), a(1), a(2), a(3));
            case "come" -> x.come(a(0), a(1), a(2));
            case "quarrels" -> x.quarrels(a(0));
            case "quarrel" -> x.quarrel(a(0), a(1));
            case "judge" -> x.judge(a(0));
            case "cheapest" -> x.cheapest(a(0));
            case "price" -> x.price(a(0));
            case "way" -> x.way(a(0), a(1), a(2), a(3), a(4));
            case "notice" -> x.notice(a(0), a(1));
            case "differ" -> x.differ(a(0), a(1), a(2));
            case "look" -> x.look(a(0), a(1));
            case "count" -> x.count(a(0));
            default -> throw new IllegalStateException("no such call: " + name);
        };
    }

    /** The same call on the plain second writing of the document. */
    int on(Model x) {
        return switch (name) {
            case "asks" -> bit(x.asks(a(0), a(1), a(2), a(3)));
            case "bars" -> bit(x.bars(a(0), a(1)));
            case "part" -> x.part(a(0), a(1), a(2));
            case "take" -> bit(x.take(a(0), a(1)));
            case "join" -> x.join(a(0), a(1), a(2));
            case "cut" -> bit(x.cut(a(0)));
            case "except" -> bit(x.except(a(0), a(1), a(2)));
            case "product" -> bit(x.product(a(0)));
            case "change" -> x.change(a(0), a(1), a(2), a(3));
            case "come" -> x.come(a(0), a(1), a(2));
            case "quarrels" -> x.quarrels(a(0));
            case "quarrel" -> x.quarrel(a(0), a(1));
            case "judge" -> x.judge(a(0));
            case "cheapest" -> x.cheapest(a(0));
            case "price" -> x.price(a(0));
            case "way" -> x.way(a(0), a(1), a(2), a(3), a(4));
            case "notice" -> x.notice(a(0), a(1));
            case "differ" -> x.differ(a(0), a(1), a(2));
            case "look" -> x.look(a(0), a(1));
            case "count" -> x.count(a(0));
            default -> throw new IllegalStateException("no such call: " + name);
        };
    }

    private static int bit(boolean answer) {
        return answer ? 1 : 0;
    }

    boolean isRefusal(int answer) {
        return switch (name) {
            case "asks", "bars", "take", "cut", "except", "product" -> answer == 0;
            default -> answer == TermsDesk.NONE;
        };
    }

    int refusal() {
        return isRefusal(0) ? 0 : TermsDesk.NONE;
    }

    @Override
    public String toString() {
        StringBuilder all = new StringBuilder(name).append('(');
        for (int k = 0; k < args.length; k++) all.append(k == 0 ? "" : ", ").append(args[k]);
        return all.append(')').toString();
    }
}
