import java.util.ArrayList;
import java.util.List;
import java.util.Random;
import java.util.TreeMap;
import java.util.function.IntSupplier;

/** Runs of random calls on Tellcourt and on Model, which must answer and throw the same. */
public final class RandomRuns {
    private final Random random;
    private final int run;
    private final Tellcourt court = new Tellcourt();
    private final Model model = new Model();
    private final List<String> calls = new ArrayList<>();
    private final TreeMap<String, Integer> seen;
    private boolean differs;
    private int count;

    private RandomRuns(int newRun, TreeMap<String, Integer> newSeen) {
        run = newRun;
        random = new Random(newRun);
        seen = newSeen;
    }

    public static void main(String[] args) {
        int runs = args.length > 0 ? Integer.parseInt(args[0]) : 6000;
        int from = args.length > 1 ? Integer.parseInt(args[1]) : 0;
        TreeMap<String, Integer> seen = new TreeMap<>();
        int wrong = 0;
        for (int run = from; run < from + runs && wrong < 5; run++) {
            RandomRuns one = new RandomRuns(run, seen);
            one.play();
            if (one.differs) {
                wrong++;
            }
        }
        if (args.length > 2) {
            System.out.println(seen);
        }
        System.out.println(wrong == 0 ? runs + " random runs are as the model's" : wrong + " random runs differ");
        if (wrong != 0) {
            System.exit(1);
        }
    }

    private static String answer(IntSupplier call) {
        try {
            return Integer.toString(call.getAsInt());
        } catch (IllegalStateException | IllegalArgumentException | IndexOutOfBoundsException e) {
            // Only the very classes that the document names may come out.
            return "throws." + e.getClass().getSimpleName();
        }
    }

    private String same(String text, IntSupplier ours, IntSupplier models) {
        if (differs) {
            return "";
        }
        String got = answer(ours);
        String due = answer(models);
        calls.add(text + " -> " + got);
        count++;
        if (!got.equals(due)) {
            differs = true;
            System.out.println("run " + run + ": " + text + " answered " + got + ", the model " + due);
            calls.forEach(c -> System.out.println("    " + c));
        }
        return due;
    }

    private void saw(String what) {
        seen.merge(what, 1, Integer::sum);
    }

    private int upTo(int bound) {
        return random.nextInt(bound);
    }

    private boolean rarely(int bound) {
        return random.nextInt(bound) == 0;
    }

    private int odd() {
        int[] odds = {-100, 100, 150, 199, 204, 299, 300, 301, 399, 400, 460, -1, 6, 9, 10, 16, 4, 60, Integer.MAX_VALUE, Integer.MIN_VALUE};
        return odds[upTo(odds.length)];
    }

    private int term() {
        if (rarely(120)) {
            return odd();
        }
        int k = upTo(10);
        return k < 4 ? 200 + upTo(2) : k < 5 ? 200 + upTo(4) : upTo(values);
    }

    /** The second term of a condition: for KNOWN any int will do. */
    private int term(int condition) {
        return condition == Model.KNOWN && rarely(2) ? odd() : term();
    }

    private int sort() {
        return rarely(150) ? odd() : upTo(sorts);
    }

    private int condition() {
        return rarely(150) ? odd() : upTo(2) == 0 ? upTo(4) : 10 + upTo(sorts);
    }

    private int node() {
        int n = model.nodes.size();
        if (rarely(150) || n == 0) {
            return odd();
        }
        return rarely(3) ? upTo(n) : Math.max(0, n - 1 - upTo(6));
    }

    private int outside() {
        int v = model.shop.variables;
        if (rarely(100)) {
            return odd();
        }
        if (v == 0 || upTo(3) == 0) {
            return upTo(values);
        }
        return 400 + (rarely(3) ? v - 1 - upTo(Math.min(v, 2)) : upTo(Math.min(v, 5)));
    }

    private int pattern() {
        int k = upTo(10);
        return rarely(150) ? odd() : k < 2 ? 300 : k < 8 ? 200 + upTo(slots) : upTo(values);
    }

    private int lawTerm() {
        if (rarely(40)) {
            return 200 + upTo(4);
        }
        if (rarely(100)) {
            return odd();
        }
        List<Integer> bound = new ArrayList<>();
        if (model.draft != null) {
            model.draft.bound().stream().filter(t -> t >= 200 && t < 300).sorted().forEach(bound::add);
        }
        return bound.isEmpty() || rarely(4) ? upTo(values) : bound.get(upTo(bound.size()));
    }

    private int sorts, values, slots;
    // Few agents, and few nodes that bring two, so that a step has few schedules.
    private boolean isSmall;

    private void play() {
        if (run % 2 == 1) {
            playTrees();
        } else {
            playGraphs();
        }
        same("standingAnew()", court::standingAnew, model::standingAnew);
        look(true);
        for (int i = 0; i < 2 && model.laws.size() > 0; i++) {
            saw("fired " + Math.min(10, model.firings.values().stream().mapToInt(n -> n).sum()));
        }
        court.standing();
    }

    /** Nodes on any others, mostly the last ones. */
    private void playGraphs() {
        sorts = 1 + upTo(4);
        values = 1 + upTo(4);
        slots = 1 + upTo(4);
        isSmall = rarely(2);
        for (int i = upTo(6); i > 0; i--) {
            variable();
        }
        if (rarely(8)) {
            crowd();
        }
        for (int i = 1 + upTo(3); i > 0; i--) {
            leaf();
        }
        int rounds = 2 + upTo(8);
        for (int round = 0; round < rounds && count < 500 && !differs; round++) {
            for (int i = upTo(round == 0 ? 20 : 8); i > 0; i--) {
                if (rarely(4)) {
                    leaf();
                } else {
                    wrap();
                }
            }
            for (int i = upTo(3); i > 0; i--) {
                define();
            }
            for (int i = upTo(3); i > 0; i--) {
                law();
            }
            for (int i = isSmall ? 1 + upTo(2) : upTo(4); i > 0; i--) {
                begin();
            }
            if (rarely(6)) {
                variable();
            }
            if (rarely(6)) {
                int s = rarely(10) ? odd() : upTo(65537);
                same("seed(" + s + ")", () -> court.seed(s), () -> model.seed(s));
            }
            if (rarely(isSmall ? 1 : 3)) {
                saw("ends " + same("ends()", court::ends, model::ends));
            }
            int before = model.clock;
            step();
            if (before == model.clock && rarely(2)) {
                break;
            }
        }
    }

    private void step() {
        saw("step " + (same("step()", court::step, model::step).startsWith("throws") ? "throws" : model.failed ? "fails" : model.acts == 0 ? "empty" : "ok"));
        look(false);
        if (rarely(5)) {
            same("standingAnew()", court::standingAnew, model::standingAnew);
        }
    }

    // ---- trees

    private int fails;
    private final List<Integer> roots = new ArrayList<>();

    /**
     * Trees of nodes whose asks are often met: few values, sorts and variables, rules that tell other sorts than those
     * of their heads, TRYs that fail late, and roots within a TRY, so that the store seldom fails as a whole.
     */
    private void playTrees() {
        sorts = 2 + upTo(2);
        values = 2;
        slots = 2;
        for (int i = 2 + upTo(3); i > 0; i--) {
            variable();
        }
        fails = equate(0, 1);
        int quiet = equate(0, 0);
        define();
        for (int i = upTo(5); i > 0; i--) {
            tameLaw();
        }
        for (int round = 2 + upTo(7); round > 0 && count < 480 && !differs && !model.failed; round--) {
            // A round of small trees has few schedules, and their ends differ more often.
            boolean isLow = rarely(3);
            if (isLow) {
                roots.clear();
            }
            for (int i = isLow ? 3 : 1; i > 0 && model.nodes.size() < 50; i--) {
                int root = tree(isLow ? upTo(3) : 2 + upTo(3));
                roots.add(rarely(isLow ? 2 : 4) ? root : attempt(root, quiet));
                define(upTo(3), root);
            }
            if (roots.isEmpty()) {
                roots.add(quiet);
            }
            for (int i = 1 + upTo(isLow ? 3 : 2); i > 0; i--) {
                int n = roots.get(upTo(roots.size())), a = slot(), b = slot();
                same("begin(" + n + ", " + a + ", " + b + ")", () -> court.begin(n, a, b), () -> model.begin(n, a, b));
            }
            if (rarely(3)) {
                tameLaw();
            }
            if (!rarely(3)) {
                saw("tree ends " + same("ends()", court::ends, model::ends));
            }
            step();
        }
    }

    private int slot() {
        return rarely(5) ? upTo(values) : 400 + upTo(Math.min(6, model.shop.variables));
    }

    private int tameTerm() {
        return rarely(3) ? upTo(values) : rarely(3) ? 200 + upTo(4) : 200 + upTo(2);
    }

    private int tameCondition() {
        return rarely(3) ? 3 : rarely(2) ? upTo(3) : 10 + upTo(sorts + 1);
    }

    private int made() {
        return model.nodes.size() - 1;
    }

    private int equate(int a, int b) {
        same("equate(" + a + ", " + b + ")", () -> court.equate(a, b), () -> model.equate(a, b));
        return made();
    }

    private int attempt(int n, int m) {
        same("attempt(" + n + ", " + m + ")", () -> court.attempt(n, m), () -> model.attempt(n, m));
        return made();
    }

    private int both(int n, int m) {
        same("both(" + n + ", " + m + ")", () -> court.both(n, m), () -> model.both(n, m));
        return made();
    }

    /** A condition and its terms: often a HAS of what some node tells. */
    private int[] tameAsk() {
        int at = upTo(model.nodes.size());
        Model.Node told = model.nodes.get(at);
        if (told.kind().equals("token") && !rarely(3)) {
            return new int[] {10 + told.what(), told.a(), told.b()};
        }
        return new int[] {tameCondition(), tameTerm(), tameTerm()};
    }

    private int ask(int n) {
        int[] asked = tameAsk();
        int c = asked[0], a = asked[1], b = asked[2];
        same("when(" + c + ", " + a + ", " + b + ", " + n + ")", () -> court.when(c, a, b, n), () -> model.when(c, a, b, n));
        return made();
    }

    private void define(int d, int n) {
        if (rarely(3)) {
            same("define(" + d + ", " + n + ")", () -> court.define(d, n), () -> model.define(d, n));
        }
    }

    private int tameLeaf() {
        int a = tameTerm(), b = tameTerm(), s = upTo(sorts);
        if (rarely(3)) {
            return equate(a, b);
        }
        boolean lasts = !rarely(3);
        same("token(" + s + ", " + a + ", " + b + ", " + lasts + ")", () -> court.token(s, a, b, lasts), () -> model.token(s, a, b, lasts));
        return made();
    }

    private int tree(int depth) {
        if (model.nodes.size() > 55 || rarely(12)) {
            return upTo(model.nodes.size());
        }
        if (depth == 0 || rarely(8)) {
            return tameLeaf();
        }
        int kind = upTo(20), n = tree(depth - 1), a = tameTerm(), b = tameTerm(), k = upTo(4);
        int[] asked = tameAsk();
        switch (kind) {
            case 7, 8 -> ask(n);
            case 9 -> {
                int w = ask(n), v = ask(tree(depth - 1)), p = upTo(2), q = upTo(2);
                same("either(" + w + ", " + p + ", " + v + ", " + q + ")", () -> court.either(w, p, v, q), () -> model.either(w, p, v, q));
            }
            case 10, 11 -> same("hide(" + k + ", " + n + ")", () -> court.hide(k, n), () -> model.hide(k, n));
            case 12 -> {
                int d = upTo(3);
                same("call(" + d + ", " + a + ", " + b + ")", () -> court.call(d, a, b), () -> model.call(d, a, b));
            }
            case 13 -> same("next(" + n + ")", () -> court.next(n), () -> model.next(n));
            case 14 -> same("each(" + n + ")", () -> court.each(n), () -> model.each(n));
            case 15, 16 -> {
                boolean d = rarely(2);
                int c = asked[0], e = asked[1], f = asked[2];
                same("unless(" + d + ", " + c + ", " + e + ", " + f + ", " + n + ")", () -> court.unless(d, c, e, f, n), () -> model.unless(d, c, e, f, n));
            }
            case 17 -> {
                int m = tree(depth - 1), w = 1 + upTo(9), v = 1 + upTo(9);
                same("lot(" + w + ", " + n + ", " + v + ", " + m + ")", () -> court.lot(w, n, v, m), () -> model.lot(w, n, v, m));
            }
            case 18, 19 -> {
                int late = rarely(2) ? both(n, rarely(2) ? fails : both(tree(depth - 1), fails)) : n;
                attempt(late, tree(depth - 1));
            }
            default -> both(n, tree(depth - 1));
        }
        return made();
    }

    /** A rule that matches often; what it tells is mostly of a higher sort than its heads are. */
    private void tameLaw() {
        int heads = 1 + upTo(2), high = 0;
        for (int i = 0; i < heads; i++) {
            int s = upTo(sorts), a = tamePattern(), b = tamePattern();
            boolean stays = !rarely(3);
            high = Math.max(high, s);
            if (i == 0) {
                same("head(" + s + ", " + a + ", " + b + ", " + stays + ")", () -> court.head(s, a, b, stays) ? 1 : 0, () -> model.head(s, a, b, stays) ? 1 : 0);
            } else {
                same("other(" + s + ", " + a + ", " + b + ", " + stays + ")", () -> court.other(s, a, b, stays), () -> model.other(s, a, b, stays));
            }
        }
        if (rarely(3)) {
            int c = tameCondition(), a = lawTerm(), b = lawTerm();
            same("guard(" + c + ", " + a + ", " + b + ")", () -> court.guard(c, a, b) ? 1 : 0, () -> model.guard(c, a, b) ? 1 : 0);
        }
        for (int i = 1 + upTo(2); i > 0; i--) {
            int s = rarely(3) ? -1 : rarely(4) ? upTo(6) : Math.min(5, high + 1 + upTo(2)), a = lawTerm(), b = lawTerm();
            same("body(" + s + ", " + a + ", " + b + ")", () -> court.body(s, a, b), () -> model.body(s, a, b));
        }
        if (!rarely(10)) {
            saw("rule " + same("rule()", court::rule, model::rule));
        }
    }

    private int tamePattern() {
        return rarely(4) ? 300 : rarely(6) ? upTo(values) : 200 + upTo(3);
    }

    /** Makes so many variables and tokens that the next ones may be too many. */
    private void crowd() {
        while (model.variables() < 53 + upTo(8)) {
            variable();
        }
        boolean lasts = rarely(2);
        same("token(5, 0, 0, " + lasts + ")", () -> court.token(5, 0, 0, lasts), () -> model.token(5, 0, 0, lasts));
        int n = model.nodes.size() - 1;
        for (int left = 80 + upTo(20); left > 0; left--) {
            same("begin(" + n + ", 0, 0)", () -> court.begin(n, 0, 0), () -> model.begin(n, 0, 0));
            if (left == 1 || model.waiting() == 30) {
                same("step()", court::step, model::step);
            }
        }
    }

    private void variable() {
        same("variable()", court::variable, model::variable);
    }

    private void leaf() {
        int a = term(), b = term(), s = sort();
        boolean lasts = rarely(2);
        if (rarely(3)) {
            same("equate(" + a + ", " + b + ")", () -> court.equate(a, b), () -> model.equate(a, b));
        } else {
            same("token(" + s + ", " + a + ", " + b + ", " + lasts + ")", () -> court.token(s, a, b, lasts), () -> model.token(s, a, b, lasts));
        }
    }

    private void wrap() {
        int n = node(), m = node(), a = term(), c = condition(), b = term(c);
        switch (isSmall && rarely(2) ? 2 + upTo(2) : upTo(13)) {
            case 0, 1 -> same("both(" + n + ", " + m + ")", () -> court.both(n, m), () -> model.both(n, m));
            case 2 -> same("when(" + c + ", " + a + ", " + b + ", " + n + ")", () -> court.when(c, a, b, n), () -> model.when(c, a, b, n));
            case 3 -> either();
            case 4 -> {
                int s = rarely(30) ? odd() : upTo(4);
                same("hide(" + s + ", " + n + ")", () -> court.hide(s, n), () -> model.hide(s, n));
            }
            case 5 -> {
                int d = rarely(30) ? odd() : upTo(3);
                same("call(" + d + ", " + a + ", " + b + ")", () -> court.call(d, a, b), () -> model.call(d, a, b));
            }
            case 6 -> same("next(" + n + ")", () -> court.next(n), () -> model.next(n));
            case 7 -> same("each(" + n + ")", () -> court.each(n), () -> model.each(n));
            case 8, 9 -> {
                boolean d = rarely(2);
                same("unless(" + d + ", " + c + ", " + a + ", " + b + ", " + n + ")", () -> court.unless(d, c, a, b, n), () -> model.unless(d, c, a, b, n));
            }
            case 10 -> {
                int w = rarely(30) ? odd() : 1 + upTo(9), v = rarely(30) ? odd() : 1 + upTo(9);
                same("lot(" + w + ", " + n + ", " + v + ", " + m + ")", () -> court.lot(w, n, v, m), () -> model.lot(w, n, v, m));
            }
            default -> same("attempt(" + n + ", " + m + ")", () -> court.attempt(n, m), () -> model.attempt(n, m));
        }
    }

    private void either() {
        int n = node(), m = node(), c = condition(), d = condition();
        int a = term(), b = term(c), e = term(), f = term(d);
        same("when(" + c + ", " + a + ", " + b + ", " + n + ")", () -> court.when(c, a, b, n), () -> model.when(c, a, b, n));
        same("when(" + d + ", " + e + ", " + f + ", " + m + ")", () -> court.when(d, e, f, m), () -> model.when(d, e, f, m));
        int p = rarely(30) ? odd() : upTo(2), q = rarely(30) ? odd() : upTo(2);
        int last = model.nodes.size() - 1, i = rarely(20) ? node() : last - 1, j = rarely(20) ? node() : last;
        same("either(" + i + ", " + p + ", " + j + ", " + q + ")", () -> court.either(i, p, j, q), () -> model.either(i, p, j, q));
    }

    private void define() {
        int d = rarely(30) ? odd() : upTo(3), n = node();
        same("define(" + d + ", " + n + ")", () -> court.define(d, n), () -> model.define(d, n));
    }

    private void law() {
        int heads = 1 + upTo(2);
        for (int i = 0; i < heads; i++) {
            int s = sort(), a = pattern(), b = pattern();
            boolean stays = upTo(3) > 0;
            if (i == 0) {
                same("head(" + s + ", " + a + ", " + b + ", " + stays + ")", () -> court.head(s, a, b, stays) ? 1 : 0, () -> model.head(s, a, b, stays) ? 1 : 0);
            } else {
                same("other(" + s + ", " + a + ", " + b + ", " + stays + ")", () -> court.other(s, a, b, stays), () -> model.other(s, a, b, stays));
            }
        }
        if (rarely(2)) {
            int c = condition(), a = lawTerm(), b = c == Model.KNOWN && rarely(2) ? odd() : lawTerm();
            same("guard(" + c + ", " + a + ", " + b + ")", () -> court.guard(c, a, b) ? 1 : 0, () -> model.guard(c, a, b) ? 1 : 0);
        }
        for (int i = upTo(10) == 0 ? upTo(4) : 1 + upTo(2); i > 0; i--) {
            int s = rarely(3) ? -1 : sort(), a = lawTerm(), b = lawTerm();
            same("body(" + s + ", " + a + ", " + b + ")", () -> court.body(s, a, b), () -> model.body(s, a, b));
        }
        if (!rarely(10)) {
            saw("rule " + same("rule()", court::rule, model::rule));
        }
    }

    private void begin() {
        int n = rarely(3) && !model.nodes.isEmpty() ? model.nodes.size() - 1 : node(), a = outside(), b = outside();
        saw("begin " + (same("begin(" + n + ", " + a + ", " + b + ")", () -> court.begin(n, a, b), () -> model.begin(n, a, b)).startsWith("throws") ? "throws" : "ok"));
    }

    /** Asks everything; the list of calls is kept short, as these change nothing. */
    private void look(boolean isLast) {
        int kept = calls.size();
        int counted = count;
        same("clock()", court::clock, model::clock);
        same("hasFailed()", () -> court.hasFailed() ? 1 : 0, () -> model.hasFailed() ? 1 : 0);
        same("variables()", court::variables, model::variables);
        same("tokens()", court::tokens, model::tokens);
        same("standing()", court::standing, model::standing);
        same("waiting()", court::waiting, model::waiting);
        same("chance(true)", () -> court.chance(true), () -> model.chance(true));
        same("chance(false)", () -> court.chance(false), () -> model.chance(false));
        for (int v = -1; v <= model.variables(); v++) {
            int i = v;
            same("value(" + i + ")", () -> court.value(i), () -> model.value(i));
            for (int w = isLast ? -1 : 0; w <= model.variables() && w < 8; w++) {
                int j = w;
                same("areOne(" + i + ", " + j + ")", () -> court.areOne(i, j) ? 1 : 0, () -> model.areOne(i, j) ? 1 : 0);
            }
        }
        for (int t = -1; t <= model.tokens(); t++) {
            int i = t;
            for (int p = -1; p <= 5; p++) {
                int j = p;
                same("part(" + i + ", " + j + ")", () -> court.part(i, j), () -> model.part(i, j));
            }
            for (int u = -1; u <= model.tokens() && (isLast || model.tokens() < 50); u++) {
                int j = u;
                same("isMadeBy(" + i + ", " + j + ")", () -> court.isMadeBy(i, j) ? 1 : 0, () -> model.isMadeBy(i, j) ? 1 : 0);
            }
        }
        for (int r = -1; r <= model.laws.size(); r++) {
            int i = r;
            same("fired(" + i + ")", () -> court.fired(i), () -> model.fired(i));
        }
        if (!differs) {
            while (calls.size() > kept) {
                calls.remove(calls.size() - 1);
            }
        }
        count = counted;
    }
}
