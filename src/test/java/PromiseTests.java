/** Each promise of the document by its number: ordinary inputs, edges, and wrong inputs. */
public final class PromiseTests extends Scenes {
    private static final int[] NO_TERMS = {-100, 100, 199, 204, 299, 300, 400, 401, Integer.MIN_VALUE, Integer.MAX_VALUE};
    // For KNOWN, b may be any int.
    private static final int[] ANY_INTS = {0, 99, -99, S0, S3, ANY, F, F + 1, 150, 204, -100, -159382412, Integer.MIN_VALUE, Integer.MAX_VALUE};
    private static final int[] NO_NODES = {-1, 60, Integer.MIN_VALUE, Integer.MAX_VALUE};
    private static final int[] NO_CONDITIONS = {-1, 4, 9, 16, Integer.MIN_VALUE, Integer.MAX_VALUE};

    private PromiseTests() {
    }

    public static void main(String[] args) {
        newObject();
        variable();
        equate();
        token();
        both();
        when();
        knownAnyB();
        conditions();
        either();
        hide();
        call();
        next();
        each();
        unless();
        byDefault();
        lot();
        attempt();
        attemptKeeps();
        attemptEdges();
        define();
        head();
        otherHead();
        guard();
        guardKnownAnyB();
        body();
        rule();
        begin();
        step();
        seed();
        ends();
        endsCompared();
        asked();
        part();
        isMadeBy();
        standing();
        fired();
        firing();
        waking();
        history();
        chance();
        fullNodes();
        Due.end("PromiseTests");
    }

    // ---- promise 1, and the constants

    private static void newObject() {
        Tellcourt x = new Tellcourt();
        Due.is("1 clock", x.clock(), 0);
        Due.holds("1 not failed", !x.hasFailed());
        Due.is("1 variables", x.variables(), 0);
        Due.is("1 tokens", x.tokens(), 0);
        Due.is("1 standing", x.standing(), 0);
        Due.is("1 standingAnew", x.standingAnew(), 0);
        Due.is("1 waiting", x.waiting(), 0);
        Due.is("1 chance above", x.chance(true), 1);
        Due.is("1 chance below", x.chance(false), 1);
        Due.fails("1 no node", Due.PLACE, () -> x.next(0));
        Due.fails("1 no rule", Due.PLACE, () -> x.fired(0));
        Due.is("1 seed", x.seed(5), 1);
        Due.is("1 ends", x.ends(), 1);
        Due.is("NONE", NONE, -1);
        Due.is("ANY", ANY, 300);
        Due.is("SLOT", Tellcourt.SLOT, 200);
        Due.is("FREE", F, 400);
        Due.is("EQUAL", EQUAL, 0);
        Due.is("UNLIKE", UNLIKE, 1);
        Due.is("LESS", LESS, 2);
        Due.is("KNOWN", KNOWN, 3);
        Due.is("HAS", HAS, 10);
        int n = x.token(0, 0, 0, true);
        for (int d = 0; d < 6; d++) {
            Due.is("1 no definition", x.define(d, n), NONE);
        }
    }

    private static void variable() {
        Tellcourt x = new Tellcourt();
        for (int i = 0; i < 60; i++) {
            Due.is("2 variable", x.variable(), i);
        }
        Due.fails("2 the 61st", Due.STATE, x::variable);
        Due.is("2 still 60", x.variables(), 60);
        Due.is("2 no value", x.value(59), 100);
        Due.fails("2 failed", Due.STATE, failed()::variable);
    }

    private static void equate() {
        Tellcourt x = withVariables(4);
        int n = x.equate(S0, S1);
        Due.is("3 first node", n, 0);
        Due.is("3 extreme values", x.equate(-99, 99), 1);
        Due.is("3 last slot", x.equate(S3, S0), 2);
        for (int bad : NO_TERMS) {
            Due.fails("3 a " + bad, Due.RANGE, () -> x.equate(bad, 0));
            Due.fails("3 b " + bad, Due.RANGE, () -> x.equate(0, bad));
        }
        Due.is("3 nothing was made", x.equate(1, 1), 3);
        Due.is("3 acts", run(x, n, F, F + 1), 1);
        Due.holds("3 are one", x.areOne(0, 1) && x.areOne(1, 0));
        Due.holds("3 others are not", !x.areOne(0, 2));
        run(x, n, F + 1, F + 2);
        Due.holds("3 over others", x.areOne(0, 2));
        run(x, n, 7, F + 2);
        Due.is("3 all have the value", x.value(0) * x.value(1) * x.value(2), 343);
        run(x, n, F + 3, 7);
        Due.is("3 value on the left", x.value(3), 7);
        Due.holds("3 the same value makes no class", !x.areOne(0, 3));
        run(x, n, F + 3, 7);
        run(x, n, F + 3, F + 3);
        run(x, n, 7, 7);
        Due.holds("3 told again", !x.hasFailed());
        run(x, n, F + 3, F);
        Due.holds("3 two classes of one value become one", x.areOne(2, 3));
        run(x, n, F + 3, 8);
        Due.holds("3 another value fails", x.hasFailed());
        Due.is("3 the value stays", x.value(3), 7);
        Tellcourt y = withVariables(3);
        int m = y.equate(S0, S1);
        run(y, m, F, 5);
        run(y, m, F + 1, F);
        Due.is("3 the class gets the value of the other", y.value(1), 5);
        run(y, m, F + 2, 6);
        run(y, m, F + 2, F + 1);
        Due.holds("3 two values fail", y.hasFailed() && !y.areOne(1, 2));
        Tellcourt z = new Tellcourt();
        run(z, failing(z), 0, 0);
        Due.holds("3 two values that are told", z.hasFailed());
    }

    private static void token() {
        Tellcourt x = withVariables(2);
        int n = x.token(5, S0, S1, true);
        Due.is("4 first node", n, 0);
        for (int bad : new int[] {-1, 6, Integer.MIN_VALUE, Integer.MAX_VALUE}) {
            Due.fails("4 sort " + bad, Due.RANGE, () -> x.token(bad, 0, 0, true));
        }
        for (int bad : NO_TERMS) {
            Due.fails("4 a " + bad, Due.RANGE, () -> x.token(0, bad, 0, true));
            Due.fails("4 b " + bad, Due.RANGE, () -> x.token(0, 0, bad, true));
        }
        int m = x.token(0, S3, -99, false);
        Due.is("4 second node", m, 1);
        x.begin(n, F + 1, 9);
        Due.is("4 acts", run(x, m, F, F), 2);
        tokenIs("4 lasting", x, 0, 5, F + 1, 9, 1, 1);
        tokenIs("4 passing", x, 1, 0, 0, -99, 0, 0);
        Due.is("4 standing", x.standing(), 1);
        // 100 tokens, and one more: 50 in each of two steps.
        Tellcourt y = new Tellcourt();
        int t = y.token(1, S0, S0, false);
        for (int round = 0; round < 4; round++) {
            for (int i = 0; i < 25; i++) {
                y.begin(t, i, 0);
            }
            Due.is("4 acts of 25", y.step(), 25);
        }
        Due.is("4 a hundred tokens", y.tokens(), 100);
        Due.is("4 the hundredth", y.part(99, 1), 24);
        Due.holds("4 not failed yet", !y.hasFailed());
        Due.is("4 the 101st acts", run(y, t, 1, 1), 1);
        Due.holds("4 the 101st fails", y.hasFailed());
        Due.is("4 still a hundred", y.tokens(), 100);
    }

    private static void both() {
        Tellcourt x = withVariables(1);
        int one = told(x, 1, S0, 1), two = told(x, 2, S0, 2);
        int b = x.both(two, one);
        int deep = x.both(b, one);
        for (int bad : NO_NODES) {
            Due.fails("5 one " + bad, Due.PLACE, () -> x.both(bad, 0));
            Due.fails("5 other " + bad, Due.PLACE, () -> x.both(0, bad));
        }
        Due.fails("5 itself", Due.PLACE, () -> x.both(4, 0));
        Due.is("5 acts", run(x, deep, 3, 0), 5);
        // The queue: deep; b one; one two one.
        tokenIs("5 first", x, 0, 1, 3, 1, 1, 1);
        tokenIs("5 second", x, 1, 2, 3, 2, 1, 1);
        tokenIs("5 third", x, 2, 1, 3, 1, 1, 1);
    }

    private static void when() {
        Tellcourt x = withVariables(2);
        int n = told(x, 0, S0, S1);
        for (int bad : NO_NODES) {
            Due.fails("6 node " + bad, Due.PLACE, () -> x.when(-1, 500, 500, bad));
        }
        for (int bad : NO_CONDITIONS) {
            Due.fails("6 condition " + bad, Due.RANGE, () -> x.when(bad, 0, 0, n));
        }
        for (int bad : NO_TERMS) {
            Due.fails("6 a " + bad, Due.RANGE, () -> x.when(EQUAL, bad, 0, n));
            Due.fails("6 b " + bad, Due.RANGE, () -> x.when(HAS + 5, 0, bad, n));
        }
        int known = x.when(KNOWN, S0, 0, n);
        Due.is("6 its number", known, 1);
        Due.is("6 it waits", run(x, known, F, 3), 1);
        Due.is("6 nothing came", x.tokens(), 0);
        int bind = x.equate(S0, 4);
        // It waits, the value is told, it acts again, and its node acts.
        Due.is("6 it goes on", run(x, x.both(known, bind), F, 3), 5);
        tokenIs("6 what came", x, 0, 0, 4, 3, 1, 1);
        Due.is("6 what waited is dropped", x.step(), 0);
        // It can go on when it comes into the queue, but not any more when it is its turn: then it waits again.
        Tellcourt y = new Tellcourt();
        y.head(0, ANY, ANY, false);
        y.other(1, ANY, ANY, false);
        y.body(2, 0, 0);
        y.rule();
        int kill = told(y, 1, 0, 0), made = told(y, 0, 0, 0), mark = told(y, 3, S0, 0);
        int first = y.when(HAS, 0, 0, kill), second = y.when(HAS, 0, 0, mark);
        int third = y.when(HAS + 2, 0, 0, made);
        y.begin(first, 0, 0);
        y.begin(y.both(second, made), 7, 0);
        y.begin(third, 0, 0);
        // first waits, both, third waits, second waits, made; first and second come; first brings kill; second goes
        // on to mark; kill fires and brings a sort 2; mark is told; third comes, and brings made once more.
        Due.is("6 acts", y.step(), 12);
        Due.is("6 tokens", y.tokens(), 5);
        Tellcourt z = new Tellcourt();
        z.head(0, ANY, ANY, false);
        z.other(1, ANY, ANY, false);
        z.body(2, 0, 0);
        z.rule();
        int zKill = told(z, 1, 0, 0), zMade = told(z, 0, 0, 0), zMark = told(z, 3, 0, 0);
        int zLate = z.when(HAS, 0, 0, zMark);
        z.begin(z.when(HAS, 0, 0, zKill), 0, 0);
        z.begin(z.when(HAS, 0, 0, z.both(zLate, zLate)), 0, 0);
        z.begin(z.when(HAS + 2, 0, 0, zMade), 0, 0);
        z.begin(zMade, 0, 0);
        // 4 acts; two come: 2 acts; kill fires: 2 acts, then both: 1, and two that wait: 2; the third comes: 1, made:
        // 1; the two come: 2, and their marks: 2.
        Due.is("6 acts of those that wait again", z.step(), 17);
        Due.is("6 marks", z.standing(), 4);
    }

    private static boolean entails(Tellcourt x, int condition, int a, int b) {
        int tokens = x.tokens();
        run(x, x.when(condition, S0, S1, 0), a, b);
        return x.tokens() > tokens;
    }

    private static void knownAnyB() {
        for (int b : ANY_INTS) {
            Tellcourt x = withVariables(2);
            int n = told(x, 0, S0, S1);
            int known = x.when(KNOWN, S0, b, n);
            Due.is("6 KNOWN with b " + b, known, 1);
            Due.fails("6 KNOWN, a matters", Due.RANGE, () -> x.when(KNOWN, 150, b, n));
            Due.fails("6 KNOWN, the node matters", Due.PLACE, () -> x.when(KNOWN, S0, b, 60));
            Due.is("6 it waits with b " + b, run(x, known, F, 3), 1);
            Due.is("6 it goes on with b " + b, run(x, known, 4, 3), 2);
            tokenIs("6 what came", x, 0, 0, 4, 3, 1, 1);
            Due.is("7 as a side with b " + b, run(x, x.either(known, 1, known, 2), 5, F), 2);
            int unless = x.unless(false, KNOWN, S0, b, n);
            Due.is("12 UNLESS with b " + b, unless, 3);
            run(x, unless, 6, 6);
            Due.is("12 it is entailed with b " + b, x.waiting(), 0);
            run(x, unless, F, 6);
            Due.is("12 it is not entailed with b " + b, x.waiting(), 1);
            x.step();
            int byDefault = x.unless(true, KNOWN, S0, b, n);
            Due.is("12 DEFAULT with b " + b, byDefault, 4);
            Due.is("12 it is assumed with b " + b, run(x, byDefault, F, 7), 2);
            Due.is("12 it is not assumed with b " + b, run(x, byDefault, 7, 7), 1);
            Due.fails("12 KNOWN, a matters", Due.RANGE, () -> x.unless(true, KNOWN, -100, b, n));
        }
        Tellcourt y = new Tellcourt();
        for (int i = 0; i < 60; i++) {
            y.equate(0, 0);
        }
        Due.fails("6 KNOWN, 61st", Due.STATE, () -> y.when(KNOWN, 0, 150, 0));
        Due.fails("12 KNOWN, 61st", Due.STATE, () -> y.unless(false, KNOWN, 0, 150, 0));
    }

    private static void conditions() {
        Tellcourt x = withVariables(6);
        x.token(5, 0, 0, false);
        int same = x.equate(S0, S1);
        x.begin(same, F, F + 1);
        x.begin(same, F + 2, 5);
        x.begin(same, F + 3, 5);
        run(x, same, F + 4, 6);
        Due.holds("EQUAL of a class", entails(x, EQUAL, F, F + 1));
        Due.holds("EQUAL itself", entails(x, EQUAL, F, F));
        Due.holds("EQUAL by values", entails(x, EQUAL, F + 2, F + 3));
        Due.holds("EQUAL to a value", entails(x, EQUAL, F + 2, 5) && entails(x, EQUAL, 5, F + 2) && entails(x, EQUAL, -9, -9));
        Due.holds("not EQUAL", !entails(x, EQUAL, F, F + 2) && !entails(x, EQUAL, F + 2, F + 4) && !entails(x, EQUAL, F, F + 5));
        Due.holds("not EQUAL values", !entails(x, EQUAL, 5, 6) && !entails(x, EQUAL, F, 0));
        Due.holds("UNLIKE", entails(x, UNLIKE, F + 2, F + 4) && entails(x, UNLIKE, 5, F + 4) && entails(x, UNLIKE, 1, 2));
        Due.holds("not UNLIKE", !entails(x, UNLIKE, F, 1) && !entails(x, UNLIKE, 1, F) && !entails(x, UNLIKE, F, F + 5) && !entails(x, UNLIKE, F + 2, F + 3));
        Tellcourt y = withVariables(6);
        y.token(5, 0, 0, false);
        int bind = y.equate(S0, S1);
        y.begin(bind, F + 2, 5);
        y.begin(bind, F + 4, 6);
        y.step();
        Due.holds("LESS", entails(y, LESS, F + 2, F + 4) && entails(y, LESS, -1, F + 2) && entails(y, LESS, -99, 99));
        Due.holds("not LESS", !entails(y, LESS, F + 4, F + 2) && !entails(y, LESS, 5, F + 2) && !entails(y, LESS, F, 99) && !entails(y, LESS, -99, F));
        Due.holds("KNOWN", entails(y, KNOWN, F + 2, F) && entails(y, KNOWN, 0, F));
        Due.holds("not KNOWN", !entails(y, KNOWN, F, 5));
        run(y, told(y, 3, S0, S1), F, F + 2);
        Due.holds("HAS", entails(y, HAS + 3, F, 5) && entails(y, HAS + 3, F, F + 2));
        Due.holds("not HAS", !entails(y, HAS + 3, F, 6) && !entails(y, HAS + 3, F + 1, 5) && !entails(y, HAS + 2, F, 5) && !entails(y, HAS + 3, F + 2, F));
        run(y, bind, F, F + 1);
        Due.holds("HAS by a class", entails(y, HAS + 3, F + 1, 5));
    }

    private static void either() {
        Tellcourt x = withVariables(1);
        int one = x.token(1, 0, 0, true), two = x.token(2, 0, 0, true);
        int w = x.when(EQUAL, S0, 0, one), v = x.when(EQUAL, S1, 0, two);
        for (int bad : NO_NODES) {
            Due.fails("7 one " + bad, Due.PLACE, () -> x.either(bad, -1, 0, 0));
            Due.fails("7 other " + bad, Due.PLACE, () -> x.either(0, 10, bad, 0));
        }
        Due.fails("7 one is no WHEN", Due.RANGE, () -> x.either(one, 0, v, 0));
        Due.fails("7 other is no WHEN", Due.RANGE, () -> x.either(w, 0, one, 0));
        for (int bad : new int[] {-1, 10, Integer.MIN_VALUE, Integer.MAX_VALUE}) {
            Due.fails("7 first " + bad, Due.RANGE, () -> x.either(w, bad, v, 0));
            Due.fails("7 last " + bad, Due.RANGE, () -> x.either(w, 0, v, bad));
        }
        int fair = x.either(w, 4, v, 4);
        Due.is("7 its number", fair, 4);
        int left = x.either(w, 9, v, 0), right = x.either(w, 8, v, 9);
        Due.is("7 acts", run(x, fair, 0, 0), 2);
        Due.is("7 the first one first", x.part(0, 0), 1);
        run(x, fair, 0, 0);
        Due.is("7 then the other", x.part(1, 0), 2);
        run(x, fair, 0, 0);
        Due.is("7 and the first again", x.part(2, 0), 1);
        run(x, fair, 0, 1);
        Due.is("7 the one that is entailed", x.part(3, 0), 1);
        run(x, fair, 0, 0);
        run(x, fair, 0, 0);
        Due.is("7 less often: 3 to 1", x.part(4, 0), 2);
        Due.is("7 less often: 3 to 2", x.part(5, 0), 2);
        run(x, fair, 1, 0);
        Due.is("7 the second alone", x.part(6, 0), 2);
        run(x, left, 0, 0);
        run(x, left, 0, 0);
        Due.holds("7 priorities on the left", x.part(7, 0) == 1 && x.part(8, 0) == 1);
        run(x, right, 0, 0);
        run(x, right, 0, 0);
        Due.holds("7 priorities on the right", x.part(9, 0) == 2 && x.part(10, 0) == 2);
        run(x, right, 0, 1);
        Due.is("7 the lesser if it is alone", x.part(11, 0), 1);
        Due.is("7 it waits", run(x, fair, 1, 1), 1);
        Due.is("7 it can wait and go on", run(x, x.both(fair, x.equate(S0, 0)), F, 1), 5);
        Due.is("7 tokens", x.tokens(), 13);
        // A HAS side gives its slice.
        Tellcourt y = new Tellcourt();
        int t = told(y, 0, S0, 0);
        int e = y.either(y.when(HAS, 1, 0, t), 0, y.when(HAS, 2, 0, t), 0);
        y.begin(t, 2, 0);
        run(y, e, 5, 0);
        Due.holds("7 the slice of the side", y.isMadeBy(1, 0));
    }

    private static void hide() {
        Tellcourt x = withVariables(2);
        int t = told(x, 0, S0, S1), u = told(x, 1, S2, S3);
        for (int bad : NO_NODES) {
            Due.fails("8 node " + bad, Due.PLACE, () -> x.hide(4, bad));
        }
        for (int bad : new int[] {-1, 4, 200, Integer.MIN_VALUE, Integer.MAX_VALUE}) {
            Due.fails("8 slot " + bad, Due.RANGE, () -> x.hide(bad, t));
        }
        int h = x.hide(1, t);
        Due.is("8 its number", h, 2);
        Due.is("8 acts", run(x, h, 7, 8), 2);
        Due.is("8 a variable was made", x.variables(), 3);
        tokenIs("8 the slot is the variable", x, 0, 0, 7, F + 2, 1, 1);
        Due.is("8 it has no value", x.value(2), 100);
        run(x, x.hide(2, x.hide(3, u)), 7, 8);
        tokenIs("8 two slots", x, 1, 1, F + 3, F + 4, 1, 1);
        run(x, x.both(h, t), 7, 8);
        tokenIs("8 the other agent keeps its frame", x, 2, 0, 7, 8, 1, 1);
        tokenIs("8 and it has its own", x, 3, 0, 7, F + 5, 1, 1);
        Tellcourt y = withVariables(59);
        int deep = y.hide(0, told(y, 0, S0, 0));
        run(y, deep, 0, 0);
        Due.holds("8 the 60th variable", !y.hasFailed() && y.variables() == 60 && y.part(0, 1) == F + 59);
        Due.is("8 the 61st acts", run(y, deep, 0, 0), 1);
        Due.holds("8 and fails", y.hasFailed() && y.variables() == 60);
    }

    private static void call() {
        Tellcourt x = withVariables(2);
        for (int bad : new int[] {-1, 6, Integer.MIN_VALUE, Integer.MAX_VALUE}) {
            Due.fails("9 definition " + bad, Due.PLACE, () -> x.call(bad, 500, 500));
        }
        for (int bad : NO_TERMS) {
            Due.fails("9 a " + bad, Due.RANGE, () -> x.call(0, bad, 0));
            Due.fails("9 b " + bad, Due.RANGE, () -> x.call(5, 0, bad));
        }
        int c = x.call(5, S1, 3);
        Due.is("9 its number", c, 0);
        Due.is("9 without a node nothing", run(x, c, 1, 2), 1);
        Due.is("9 nothing came", x.tokens(), 0);
        int t = told(x, 0, S0, S1), u = told(x, 1, S2, S3);
        x.define(5, x.both(t, u));
        Due.is("9 acts", run(x, c, 1, F + 1), 4);
        tokenIs("9 its slots 0 and 1", x, 0, 0, F + 1, 3, 1, 1);
        tokenIs("9 its slots 2 and 3", x, 1, 1, 0, 0, 1, 1);
        run(x, x.hide(2, x.hide(3, c)), 1, 2);
        tokenIs("9 hidden slots are not handed on", x, 3, 1, 0, 0, 1, 1);
        Tellcourt y = new Tellcourt();
        int swap = y.call(0, S1, S0);
        y.define(0, told(y, 0, S0, S1));
        run(y, swap, 1, 2);
        tokenIs("9 swapped", y, 0, 0, 2, 1, 1, 1);
        // The definition at the time of the act is called.
        y.begin(swap, 1, 2);
        y.define(0, told(y, 1, S0, S1));
        y.step();
        Due.is("9 defined anew", y.part(1, 0), 1);
        // A definition that calls itself comes to the end of the acts.
        y.define(1, y.call(1, S0, S1));
        Due.is("9 without an end", run(y, y.call(1, 0, 0), 0, 0), 60);
        Due.holds("9 the 61st act fails", y.hasFailed());
    }

    private static void next() {
        Tellcourt x = withVariables(1);
        int t = told(x, 0, S0, S1);
        for (int bad : NO_NODES) {
            Due.fails("10 node " + bad, Due.PLACE, () -> x.next(bad));
        }
        int n = x.next(t);
        Due.is("10 its number", n, 1);
        Due.is("10 acts", run(x, x.next(n), F, 4), 1);
        Due.is("10 it is for the next step", x.waiting(), 1);
        Due.is("10 acts of the next", x.step(), 1);
        Due.is("10 no token yet", x.tokens(), 0);
        Due.is("10 acts of the last", x.step(), 1);
        tokenIs("10 with its frame", x, 0, 0, F, 4, 1, 1);
        Due.is("10 none is left", x.waiting(), 0);
    }

    private static void each() {
        Tellcourt x = withVariables(1);
        int t = told(x, 0, S0, S1);
        for (int bad : NO_NODES) {
            Due.fails("11 node " + bad, Due.PLACE, () -> x.each(bad));
        }
        int e = x.each(t);
        Due.is("11 its number", e, 1);
        Due.is("11 acts", run(x, e, F, 4), 2);
        Due.is("11 itself is for the next step", x.waiting(), 1);
        Due.is("11 acts again", x.step(), 2);
        Due.is("11 and again", x.step(), 2);
        tokenIs("11 with its frame", x, 2, 0, F, 4, 1, 1);
        Due.is("11 still one", x.waiting(), 1);
    }

    private static void unless() {
        Tellcourt x = withVariables(2);
        int t = told(x, 0, S0, S1);
        for (int bad : NO_NODES) {
            Due.fails("12 node " + bad, Due.PLACE, () -> x.unless(false, -1, 500, 500, bad));
        }
        for (int bad : NO_CONDITIONS) {
            Due.fails("12 condition " + bad, Due.RANGE, () -> x.unless(true, bad, 0, 0, t));
        }
        for (int bad : NO_TERMS) {
            Due.fails("12 a " + bad, Due.RANGE, () -> x.unless(false, EQUAL, bad, 0, t));
            Due.fails("12 b " + bad, Due.RANGE, () -> x.unless(true, HAS, 0, bad, t));
        }
        int u = x.unless(false, KNOWN, S0, 0, t);
        Due.is("12 its number", u, 1);
        Due.is("12 it waits", run(x, u, F, 2), 1);
        Due.is("12 its node is for the next step", x.waiting(), 1);
        Due.is("12 its node acts", x.step(), 1);
        tokenIs("12 what it brought", x, 0, 0, F, 2, 1, 1);
        run(x, u, 1, 2);
        Due.is("12 an entailed one is dropped", x.waiting(), 0);
        x.begin(u, F, 2);
        run(x, x.equate(S0, 3), F, 0);
        Due.is("12 it is looked at at the end", x.waiting(), 0);
        // In the order in which they began to wait, behind those that came before.
        Tellcourt y = new Tellcourt();
        int m = told(y, 1, S0, S1);
        int v = y.unless(false, EQUAL, 0, 1, m);
        y.begin(v, 5, 0);
        y.begin(y.next(m), 6, 0);
        y.begin(v, 7, 0);
        y.step();
        y.step();
        Due.holds("12 the order", y.part(0, 1) == 6 && y.part(1, 1) == 5 && y.part(2, 1) == 7);
        // It sees tokens that do not last before they are dropped.
        Tellcourt z = new Tellcourt();
        z.begin(z.token(0, 1, 1, false), 0, 0);
        z.begin(z.unless(false, HAS, 1, 1, 0), 0, 0);
        z.step();
        Due.is("12 passing tokens are seen", z.waiting(), 0);
    }

    private static void byDefault() {
        Tellcourt x = withVariables(2);
        int five = x.equate(S0, 5), six = x.equate(S0, 6), mark = told(x, 0, S0, S1);
        int d = x.unless(true, KNOWN, S0, 0, mark);
        Due.is("12 the DEFAULT's number", d, 3);
        Due.is("12 it is assumed", run(x, d, F, 1), 2);
        tokenIs("12 its node acted", x, 0, 0, F, 1, 1, 1);
        Due.is("12 not for the next step", x.waiting(), 0);
        x.begin(d, F + 1, 2);
        Due.is("12 told otherwise", run(x, five, F + 1, 0), 2);
        Due.is("12 it was not assumed", x.tokens(), 1);
        // The first one of two; what it brings makes the second one entailed.
        int even = x.unless(true, KNOWN, S0, 0, five), odd = x.unless(true, KNOWN, S0, 0, six);
        Due.is("12 the first one fails by itself", run(x, x.both(even, odd), F, 0), 4);
        Due.holds("12 what was assumed must stay so", x.hasFailed());
        Due.is("12 the clock stays", x.clock(), 2);
        Tellcourt y = withVariables(1);
        int bind = y.equate(S0, 5), note = told(y, 1, S0, 0);
        int first = y.unless(true, HAS + 1, S0, 0, y.both(bind, told(y, 2, 0, 0)));
        int second = y.unless(true, KNOWN, S0, 0, note);
        y.begin(first, F, 0);
        y.begin(second, F, 0);
        y.begin(y.when(KNOWN, S0, 0, told(y, 3, 0, 0)), F, 0);
        // Three wait; the first is assumed: both, bind, a token; the WHEN and its token; the second is entailed.
        Due.is("12 acts", y.step(), 8);
        Due.holds("12 not failed", !y.hasFailed() && y.clock() == 1 && y.tokens() == 2);
        Tellcourt z = new Tellcourt();
        int zNote = z.token(0, 0, 0, false);
        int late = z.unless(true, HAS + 1, 0, 0, z.next(zNote)), early = z.unless(true, HAS, 0, 0, zNote);
        z.begin(late, 0, 0);
        z.begin(early, 0, 0);
        z.begin(z.unless(false, HAS, 0, 0, zNote), 0, 0);
        z.step();
        Due.holds("12 the assumed one breaks its own condition", z.hasFailed());
        Due.is("12 what came for the next step stays", z.waiting(), 1);
        Due.is("12 passing tokens stay in a failed step", z.standing(), 1);
    }

    private static void lot() {
        Tellcourt x = new Tellcourt();
        int one = told(x, 1, S0, 0), two = told(x, 2, S0, 0);
        for (int bad : NO_NODES) {
            Due.fails("13 one " + bad, Due.PLACE, () -> x.lot(0, bad, 1, 0));
            Due.fails("13 other " + bad, Due.PLACE, () -> x.lot(1, 0, 0, bad));
        }
        for (int bad : new int[] {0, 10, -1, Integer.MIN_VALUE, Integer.MAX_VALUE}) {
            Due.fails("13 weight " + bad, Due.RANGE, () -> x.lot(bad, one, 1, two));
            Due.fails("13 more " + bad, Due.RANGE, () -> x.lot(1, one, bad, two));
        }
        int l = x.lot(1, one, 9, two);
        Due.is("13 its number", l, 2);
        // 1 becomes 149, whose remainder by 10 is 9.
        Due.is("13 acts", run(x, l, 4, 0), 2);
        Due.is("13 the second one", x.part(0, 0), 2);
        Due.is("13 x", x.seed(149), 149);
        // 149 becomes 11249, whose remainder by 10 is 9; by 18 it is 17; 11249 becomes 57313, by 2: 1.
        run(x, x.lot(9, one, 9, two), 4, 0);
        Due.is("13 by 18", x.part(1, 0), 2);
        run(x, x.lot(1, one, 1, two), 4, 0);
        // 11249 times 75 is 843675, and 74 is 843749; less 12 times 65537 it is 57305: odd.
        Due.is("13 by 2", x.part(2, 0), 2);
        Due.is("13 x after it", x.seed(0), 57305);
        // 0 becomes 74: by 10 it is 4, which is less than 5, and is not less than 4.
        run(x, x.lot(5, one, 5, two), 4, 0);
        Due.is("13 less than the weight", x.part(3, 0), 1);
        x.seed(0);
        run(x, x.lot(4, one, 6, two), 4, 0);
        Due.is("13 as much as the weight", x.part(4, 0), 2);
        // 9/10 times 1/2 times 1/2 times 1/2 times 6/10.
        Due.is("13 chance above", x.chance(true), 27);
        Due.is("13 chance below", x.chance(false), 400);
    }

    private static void attempt() {
        Tellcourt x = withVariables(1);
        int bad1 = x.equate(S0, 1), good = told(x, 0, S0, 0), other = told(x, 1, S0, S1);
        for (int bad : NO_NODES) {
            Due.fails("14 node " + bad, Due.PLACE, () -> x.attempt(bad, 0));
            Due.fails("14 other " + bad, Due.PLACE, () -> x.attempt(0, bad));
        }
        int ok = x.attempt(x.both(good, x.next(good)), other);
        Due.is("14 its number", ok, 5);
        x.begin(ok, 7, 8);
        Due.is("14 acts", run(x, x.next(other), 9, 9), 5);
        Due.is("14 a token", x.tokens(), 1);
        Due.is("14 for the next step", x.waiting(), 2);
        x.step();
        // The TRY acts before the NEXT beside it, so its agent comes first.
        tokenIs("14 first", x, 1, 0, 7, 0, 1, 1);
        tokenIs("14 second", x, 2, 1, 9, 9, 1, 1);
        int fail = x.attempt(chain(x, good, x.next(good), bad1, x.equate(S0, 2)), other);
        x.begin(fail, F, 3);
        Due.is("14 acts of one that fails", x.step(), 9);
        Due.is("14 nothing of it for the next step", x.waiting(), 0);
        Due.is("14 its tokens keep their numbers", x.tokens(), 5);
        tokenIs("14 but do not stand", x, 3, 0, F, 0, 0, 1);
        tokenIs("14 the other one", x, 4, 1, F, 3, 1, 1);
        Due.is("14 the value is forgotten", x.value(0), 100);
        Due.holds("14 the store did not fail", !x.hasFailed());
        // What is for the next step comes behind that of the outside, and UNLESS is looked at, at the end of the TRY.
        Tellcourt y = new Tellcourt();
        int t = told(y, 0, S0, 0), pass = y.token(2, 0, 0, false);
        int in = chain(y, y.unless(false, HAS, 1, 0, t), y.when(HAS + 1, 0, 0, t), y.next(t), pass);
        y.begin(y.next(t), 5, 0);
        y.begin(y.attempt(in, t), 1, 0);
        y.begin(y.next(t), 6, 0);
        y.begin(y.when(HAS + 2, 0, 0, y.next(t)), 7, 0);
        y.begin(told(y, 1, 0, 0), 0, 0);
        y.step();
        Due.is("14 what waits in a TRY is dropped", y.waiting(), 5);
        y.step();
        int[] order = {5, 1, 1, 6, 7};
        for (int i = 0; i < order.length; i++) {
            Due.is("14 order " + i, y.part(2 + i, 1), order[i]);
        }
        Due.is("14 the clock", y.clock(), 2);
    }

    private static void attemptKeeps() {
        // A copy's rules fire, and what they count is kept, but what they repeat is forgotten.
        Tellcourt x = withVariables(2);
        x.head(0, S0, ANY, true);
        x.guard(KNOWN, S0, 0);
        x.body(1, S0, 0);
        x.rule();
        int t = told(x, 0, S0, 0), bind = x.equate(S0, 5);
        run(x, t, F, 0);
        int h = x.hide(2, chain(x, x.equate(S2, S1), bind, x.equate(0, 1)));
        run(x, x.attempt(h, told(x, 3, S0, S1)), F, F + 1);
        Due.is("14 firings are counted", x.fired(0), 1);
        Due.is("14 tokens", x.tokens(), 3);
        Due.is("14 the fired one stands no more", x.part(1, 3), 0);
        Due.holds("14 but keeps its slice", x.isMadeBy(1, 0));
        Due.is("14 its argument has no value now", x.part(1, 1), F);
        Due.is("14 a variable was made", x.variables(), 3);
        Due.is("14 it has no value", x.value(2), 100);
        Due.holds("14 and is alone", !x.areOne(2, 1));
        run(x, bind, F, 0);
        Due.is("14 the rule fires again outside", x.fired(0), 2);
        Due.is("14 its token stands", x.part(3, 3), 1);
        // Removed tokens stand again.
        Tellcourt y = new Tellcourt();
        y.head(0, ANY, ANY, false);
        y.other(1, ANY, ANY, true);
        y.body(2, 0, 0);
        y.rule();
        y.begin(told(y, 0, 0, 0), 0, 0);
        int kill = y.both(told(y, 1, 0, 0), y.equate(0, 1));
        run(y, y.attempt(kill, told(y, 3, 0, 0)), 0, 0);
        Due.is("14 the removed one stands", y.part(0, 3), 1);
        Due.is("14 standing", y.standing(), 2);
        // Draws, chances and what was taken of EITHERs are kept.
        Tellcourt z = new Tellcourt();
        int a = told(z, 1, 0, 0), b = told(z, 2, 0, 0);
        int e = z.either(z.when(EQUAL, 0, 0, a), 0, z.when(EQUAL, 0, 0, b), 0);
        int l = z.lot(1, a, 3, b);
        run(z, z.attempt(chain(z, e, l, z.equate(0, 1)), e), 0, 0);
        Due.is("14 draws are kept", z.seed(1), 149);
        Due.holds("14 chances are kept", z.chance(true) == 3 && z.chance(false) == 4);
        Due.is("14 the other side is taken", z.part(z.tokens() - 1, 0), 2);
        Due.is("14 one stands", z.standing(), 1);
        // The other node has the slice of the agent.
        Tellcourt w = new Tellcourt();
        int m = told(w, 0, 0, 0);
        w.begin(m, 0, 0);
        run(w, w.when(HAS, 0, 0, w.attempt(w.equate(0, 1), told(w, 1, S0, S1))), 3, 4);
        Due.holds("14 slice and frame", w.isMadeBy(1, 0) && w.part(1, 1) == 3 && w.part(1, 2) == 4);
        // A DEFAULT that was assumed in it and turns out entailed fails it.
        Tellcourt v = new Tellcourt();
        int q = told(v, 0, 0, 0);
        Due.is("14 acts of a default", run(v, v.attempt(v.unless(true, HAS, 0, 0, q), told(v, 1, 0, 0)), 0, 0), 4);
        Due.holds("14 the TRY fails", !v.hasFailed() && v.standing() == 1 && v.part(1, 0) == 1);
    }

    private static void attemptEdges() {
        Tellcourt x = new Tellcourt();
        int good = told(x, 0, 0, 0), other = told(x, 1, 0, 0);
        int three = x.attempt(x.attempt(x.attempt(good, other), other), other);
        Due.is("14 within two others", run(x, three, 0, 0), 4);
        Due.is("14 it is tried", x.part(0, 0), 0);
        int four = x.attempt(three, other);
        Due.is("14 within three others", run(x, four, 0, 0), 5);
        Due.is("14 it fails at once", x.part(1, 0), 1);
        // An endless TRY comes to the end of the acts; then the store fails as soon as the other would act.
        Tellcourt y = withVariables(1);
        y.define(0, y.call(0, 0, 0));
        int t = told(y, 2, 0, 0);
        y.begin(y.next(t), 0, 0);
        Due.is("14 acts", run(y, y.both(y.attempt(0, t), t), 0, 0), 60);
        Due.holds("14 the store fails", y.hasFailed() && y.standing() == 0 && y.clock() == 0 && y.waiting() == 1);
        // A TRY that ends with the 60th act does not fail.
        Tellcourt z = new Tellcourt();
        int full = told(z, 0, 0, 0);
        for (int i = 0; i < 29; i++) {
            z.begin(full, 0, 0);
        }
        int five = full;
        for (int i = 0; i < 14; i++) {
            five = z.both(full, five);
        }
        // 29 acts, and the TRY with 1 + 14 + 15.
        Due.is("14 sixty acts", run(z, z.attempt(five, full), 0, 0), 59);
        Due.holds("14 no failure", !z.hasFailed() && z.standing() == 44);
        // Variables beyond 60 fail it.
        Tellcourt w = withVariables(60);
        run(w, w.attempt(w.hide(0, told(w, 0, 0, 0)), told(w, 1, 0, 0)), 0, 0);
        Due.holds("14 one variable too many", !w.hasFailed() && w.part(0, 0) == 1);
        Tellcourt v = withVariables(59);
        int h = v.hide(0, told(v, 0, 0, 0));
        run(v, v.attempt(v.both(h, v.equate(0, 1)), h), 0, 0);
        Due.holds("14 numbers that were given stay given", v.hasFailed() && v.variables() == 60);
    }

    private static void define() {
        Tellcourt x = new Tellcourt();
        Due.fails("15 no node", Due.PLACE, () -> x.define(0, 0));
        int n = told(x, 0, 0, 0), m = told(x, 1, 0, 0);
        for (int bad : new int[] {-1, 6, Integer.MIN_VALUE, Integer.MAX_VALUE}) {
            Due.fails("15 definition " + bad, Due.PLACE, () -> x.define(bad, n));
        }
        for (int bad : NO_NODES) {
            Due.fails("15 node " + bad, Due.PLACE, () -> x.define(0, bad));
        }
        Due.is("15 none before", x.define(0, m), NONE);
        Due.is("15 the node before", x.define(0, n), m);
        Due.is("15 another definition", x.define(5, n), NONE);
        Due.is("15 the last one", x.define(0, n), n);
    }

    private static void head() {
        Tellcourt x = new Tellcourt();
        for (int bad : new int[] {-1, 6, Integer.MIN_VALUE, Integer.MAX_VALUE}) {
            Due.fails("16 sort " + bad, Due.RANGE, () -> x.head(bad, 0, 0, true) ? 1 : 0);
        }
        for (int bad : new int[] {-100, 100, 199, 204, 299, 301, 400, Integer.MIN_VALUE, Integer.MAX_VALUE}) {
            Due.fails("16 a " + bad, Due.RANGE, () -> x.head(0, bad, 0, true) ? 1 : 0);
            Due.fails("16 b " + bad, Due.RANGE, () -> x.head(0, 0, bad, true) ? 1 : 0);
        }
        Due.holds("16 none was begun", !x.head(0, S0, S3, true));
        Due.holds("16 one was begun", x.head(5, ANY, -99, false));
        Due.fails("16 the first one is gone", Due.RANGE, () -> x.body(0, S0, 0));
        x.body(1, 0, 0);
        Due.holds("16 in place of one with a body", x.head(2, ANY, 7, false));
        Due.fails("16 its body is gone", Due.STATE, x::rule);
        Due.is("16 a second head", x.other(3, 0, 0, true), 2);
        Due.holds("16 in place of one with two heads", x.head(0, S0, S0, false));
        x.body(1, S0, 3);
        x.rule();
        Due.holds("16 none after it was made", !x.head(0, 0, 0, true));
        x.begin(told(x, 0, 4, 4), 0, 0);
        run(x, told(x, 0, 4, 5), 0, 0);
        Due.is("16 it fires for the same alone", x.fired(0), 1);
        tokenIs("16 the body", x, 1, 1, 4, 3, 1, 1);
        Due.is("16 the head is removed", x.part(0, 3), 0);
    }

    private static void otherHead() {
        Tellcourt x = new Tellcourt();
        for (int bad : new int[] {-1, 6, Integer.MIN_VALUE, Integer.MAX_VALUE}) {
            Due.fails("17 sort " + bad, Due.RANGE, () -> x.other(bad, 0, 0, true));
        }
        for (int bad : new int[] {-100, 100, 199, 204, 299, 301, 400, Integer.MIN_VALUE, Integer.MAX_VALUE}) {
            Due.fails("17 a " + bad, Due.RANGE, () -> x.other(0, bad, 0, true));
            Due.fails("17 b " + bad, Due.RANGE, () -> x.other(0, 0, bad, true));
        }
        Due.fails("17 none was begun", Due.STATE, () -> x.other(0, 0, 0, true));
        x.head(0, S0, S1, true);
        Due.is("17 two heads", x.other(1, S1, ANY, true), 2);
        Due.fails("17 a third one", Due.STATE, () -> x.other(1, 0, 0, true));
        x.head(0, S0, S1, true);
        x.guard(KNOWN, S0, 0);
        Due.fails("17 with a guard", Due.STATE, () -> x.other(1, 0, 0, true));
        x.head(0, S0, S1, true);
        x.body(0, 0, 0);
        Due.fails("17 with a body", Due.STATE, () -> x.other(1, 0, 0, true));
    }

    private static void guard() {
        Tellcourt x = withVariables(1);
        Due.fails("18 none was begun", Due.STATE, () -> x.guard(EQUAL, 0, 0) ? 1 : 0);
        Due.fails("18 no head, no rule variable", Due.RANGE, () -> x.guard(EQUAL, S0, 0) ? 1 : 0);
        x.head(0, S0, S1, true);
        x.other(1, S2, ANY, true);
        for (int bad : NO_CONDITIONS) {
            Due.fails("18 condition " + bad, Due.RANGE, () -> x.guard(bad, 0, 0) ? 1 : 0);
        }
        for (int bad : NO_TERMS) {
            Due.fails("18 a " + bad, Due.RANGE, () -> x.guard(EQUAL, bad, 0) ? 1 : 0);
            Due.fails("18 b " + bad, Due.RANGE, () -> x.guard(EQUAL, 0, bad) ? 1 : 0);
        }
        Due.fails("18 a of no head", Due.RANGE, () -> x.guard(EQUAL, S3, 0) ? 1 : 0);
        Due.fails("18 b of no head", Due.RANGE, () -> x.guard(EQUAL, 0, S3) ? 1 : 0);
        Due.holds("18 guard", x.guard(LESS, S0, S2));
        Due.fails("18 a second one", Due.STATE, () -> x.guard(EQUAL, 0, 0) ? 1 : 0);
        x.body(2, S0, S2);
        x.rule();
        x.head(0, S0, S1, true);
        x.body(3, 0, 0);
        Due.fails("18 behind a body", Due.STATE, () -> x.guard(EQUAL, 0, 0) ? 1 : 0);
        x.begin(told(x, 0, S0, 0), 3, 0);
        x.begin(told(x, 1, S0, 0), 3, 0);
        x.begin(2 - 1, 4, 0);
        x.step();
        Due.is("18 it fires if the guard is entailed", x.fired(0), 1);
        tokenIs("18 the body", x, 3, 2, 3, 4, 1, 1);
        // HAS as a guard.
        Tellcourt y = new Tellcourt();
        y.head(0, S0, ANY, true);
        y.guard(HAS + 1, S0, 7);
        y.body(2, S0, 0);
        y.rule();
        int zero = told(y, 0, S0, 0), one = told(y, 1, S0, 7);
        y.begin(zero, 1, 0);
        y.begin(one, 1, 0);
        run(y, zero, 1, 0);
        Due.is("18 HAS guards", y.fired(0), 1);
        Due.holds("18 the guard's token is not in the slice", y.isMadeBy(3, 2) && !y.isMadeBy(3, 1));
    }

    private static void guardKnownAnyB() {
        int[] more = {S1, S2, 199, 200 + 99};
        for (int i = 0; i < ANY_INTS.length + more.length; i++) {
            int b = i < ANY_INTS.length ? ANY_INTS[i] : more[i - ANY_INTS.length];
            Tellcourt x = withVariables(1);
            Due.fails("18 none was begun", Due.STATE, () -> x.guard(KNOWN, 0, b) ? 1 : 0);
            x.head(0, S0, ANY, true);
            Due.fails("18 KNOWN, a matters", Due.RANGE, () -> x.guard(KNOWN, S1, b) ? 1 : 0);
            Due.holds("18 KNOWN with b " + b, x.guard(KNOWN, S0, b));
            Due.fails("18 a second one", Due.STATE, () -> x.guard(KNOWN, S0, b) ? 1 : 0);
            x.body(1, S0, 0);
            x.rule();
            int told = told(x, 0, S0, 0);
            run(x, told, F, 0);
            Due.is("18 it is not entailed with b " + b, x.fired(0), 0);
            run(x, told, 3, 0);
            Due.is("18 it is entailed with b " + b, x.fired(0), 1);
        }
    }

    private static void body() {
        Tellcourt x = withVariables(2);
        Due.fails("19 none was begun", Due.STATE, () -> x.body(0, 0, 0));
        x.head(0, S0, S1, true);
        for (int bad : new int[] {-2, 6, Integer.MIN_VALUE, Integer.MAX_VALUE}) {
            Due.fails("19 sort " + bad, Due.RANGE, () -> x.body(bad, 0, 0));
        }
        for (int bad : NO_TERMS) {
            Due.fails("19 a " + bad, Due.RANGE, () -> x.body(0, bad, 0));
            Due.fails("19 b " + bad, Due.RANGE, () -> x.body(NONE, 0, bad));
        }
        Due.fails("19 a of no head", Due.RANGE, () -> x.body(0, S2, 0));
        Due.fails("19 b of no head", Due.RANGE, () -> x.body(0, 0, S2));
        Due.is("19 a body", x.body(NONE, S0, S1), 1);
        Due.is("19 two bodies", x.body(5, S1, -99), 2);
        Due.fails("19 a third one", Due.STATE, () -> x.body(0, 0, 0));
        x.rule();
        Due.is("19 acts", run(x, told(x, 0, S0, S1), F, F + 1), 2);
        Due.holds("19 EQUATE", x.areOne(0, 1));
        tokenIs("19 TOKEN", x, 1, 5, F, -99, 1, 1);
        x.head(1, S0, S1, true);
        x.body(NONE, S0, 1);
        x.body(2, 0, 0);
        x.rule();
        Due.is("19 acts of a body that fails", run(x, told(x, 1, S0, S1), 2, 0), 2);
        Due.holds("19 the second is not told", x.hasFailed() && x.tokens() == 3 && x.fired(1) == 1);
    }

    private static void rule() {
        Tellcourt x = new Tellcourt();
        Due.fails("20 none was begun", Due.STATE, x::rule);
        int t = told(x, 0, 1, 1);
        run(x, t, 0, 0);
        for (int i = 0; i < 8; i++) {
            x.head(0, ANY, ANY, true);
            Due.fails("20 no body", Due.STATE, x::rule);
            x.body(1, i, 0);
            Due.is("20 its number", x.rule(), i);
            Due.fails("20 made already", Due.STATE, x::rule);
        }
        x.head(0, ANY, ANY, true);
        x.body(1, 9, 0);
        Due.fails("20 the ninth", Due.STATE, x::rule);
        Due.fails("20 not made", Due.PLACE, () -> x.fired(8));
        Due.holds("20 still begun", x.head(0, ANY, ANY, true));
        x.step();
        Due.is("20 tokens that stand are not made active", x.tokens(), 1);
        Due.is("20 all eight fire", run(x, t, 0, 0), 9);
        for (int i = 0; i < 8; i++) {
            Due.is("20 by rising numbers", x.part(2 + i, 1), i);
        }
    }

    private static void begin() {
        Tellcourt x = withVariables(2);
        Due.fails("21 no node", Due.PLACE, () -> x.begin(0, 500, 150));
        int t = told(x, 0, S0, S1), u = told(x, 1, S2, S3);
        for (int bad : NO_NODES) {
            Due.fails("21 node " + bad, Due.PLACE, () -> x.begin(bad, 150, 0));
        }
        for (int bad : new int[] {402, 460, Integer.MAX_VALUE}) {
            Due.fails("21 a " + bad, Due.PLACE, () -> x.begin(t, bad, 150));
            Due.fails("21 b " + bad, Due.PLACE, () -> x.begin(t, 150, bad));
        }
        for (int bad : new int[] {-100, 100, 200, 300, 399, Integer.MIN_VALUE}) {
            Due.fails("21 a " + bad, Due.RANGE, () -> x.begin(t, bad, 0));
            Due.fails("21 b " + bad, Due.RANGE, () -> x.begin(t, 0, bad));
        }
        Due.is("21 first", x.begin(t, F, F + 1), 1);
        Due.is("21 second", x.begin(t, -99, 99), 2);
        Due.is("21 third", x.begin(u, 5, 6), 3);
        Due.is("21 acts", x.step(), 3);
        tokenIs("21 variables", x, 0, 0, F, F + 1, 1, 1);
        tokenIs("21 values", x, 1, 0, -99, 99, 1, 1);
        tokenIs("21 the slots 2 and 3", x, 2, 1, 0, 0, 1, 1);
        for (int i = 1; i <= 30; i++) {
            Due.is("21 many", x.begin(t, 0, 0), i);
        }
        Due.fails("21 the 31st", Due.STATE, () -> x.begin(t, 0, 0));
        Due.is("21 still 30", x.waiting(), 30);
        Due.is("21 their acts", x.step(), 30);
        Due.fails("21 failed", Due.STATE, () -> failed().begin(0, 0, 0));
        // Those that a step brings may be more than 30; only beginning is barred by that.
        Tellcourt y = new Tellcourt();
        int n = y.next(told(y, 0, 0, 0));
        Due.fails("21 no variable at all", Due.PLACE, () -> y.begin(n, F, 0));
        Due.fails("21 nor for b", Due.PLACE, () -> y.begin(n, 0, F));
        int two = y.both(n, n);
        for (int i = 0; i < 18; i++) {
            y.begin(two, 0, 0);
        }
        Due.is("21 acts of 18", y.step(), 54);
        Due.is("21 waiting", y.waiting(), 36);
        Due.fails("21 barred", Due.STATE, () -> y.begin(two, 0, 0));
        Due.is("21 all act", y.step(), 36);
    }

    private static void step() {
        Tellcourt x = new Tellcourt();
        for (int i = 0; i < 30; i++) {
            Due.is("22 an empty step", x.step(), 0);
            Due.is("22 the clock", x.clock(), i + 1);
        }
        Due.fails("22 the 31st", Due.STATE, x::step);
        Due.is("22 the clock stays", x.clock(), 30);
        Due.fails("22 failed", Due.STATE, failed()::step);
        // 60 acts, and one more.
        Tellcourt y = new Tellcourt();
        int t = y.token(0, 0, 0, false), b = y.both(t, t);
        for (int i = 0; i < 20; i++) {
            y.begin(b, 0, 0);
        }
        Due.is("22 60 acts", y.step(), 60);
        Due.holds("22 no failure", !y.hasFailed() && y.clock() == 1);
        for (int i = 0; i < 20; i++) {
            y.begin(b, 0, 0);
        }
        y.begin(t, 0, 0);
        Due.is("22 one more", y.step(), 60);
        Due.holds("22 failure", y.hasFailed() && y.clock() == 1);
        Due.is("22 tokens that do not last stand in a failed step", y.standing(), 40);
        // A rule's firing is an act, and fails if there would be one more.
        Tellcourt z = new Tellcourt();
        z.head(0, S0, S1, false);
        z.body(0, S0, S1);
        z.rule();
        Due.is("22 endless firing", run(z, told(z, 0, 0, 0), 0, 0), 60);
        Due.holds("22 fails", z.hasFailed() && z.fired(0) == 59 && z.tokens() == 60 && z.standing() == 1);
        // The order: all of the queue first, then those that wait, in the order in which they began to.
        Tellcourt w = withVariables(1);
        int bind = w.equate(S0, 1), note = told(w, 1, S1, 0), known = w.when(KNOWN, S0, 0, note);
        w.begin(known, F, 1);
        w.begin(known, F, 2);
        w.begin(w.both(bind, note), F, 3);
        Due.is("22 acts", w.step(), 9);
        Due.holds("22 the order", w.part(0, 1) == 3 && w.part(1, 1) == 1 && w.part(2, 1) == 2);
        w.begin(note, 0, 9);
        w.begin(w.equate(0, 1), 0, 0);
        w.begin(note, 0, 9);
        Due.is("22 it is over at once", w.step(), 2);
        Due.holds("22 and failed", w.hasFailed() && w.clock() == 1 && w.tokens() == 4);
    }

    private static void seed() {
        Tellcourt x = new Tellcourt();
        for (int bad : new int[] {-1, 65537, Integer.MIN_VALUE, Integer.MAX_VALUE}) {
            Due.fails("23 seed " + bad, Due.RANGE, () -> x.seed(bad));
        }
        Due.is("23 at first", x.seed(65536), 1);
        Due.is("23 the greatest", x.seed(0), 65536);
        Due.is("23 the least", x.seed(65536), 0);
        int l = x.lot(1, told(x, 0, 0, 0), 1, told(x, 1, 0, 0));
        run(x, l, 0, 0);
        // 65536 is -1: 75 times that, and 74, is -1 again.
        Due.is("23 after a draw", x.seed(3), 65536);
        run(x, l, 0, 0);
        Due.is("23 after another", x.seed(3), 299);
    }

    private static void ends() {
        Tellcourt x = withVariables(1);
        Due.is("24 of nothing", x.ends(), 1);
        int one = x.equate(S0, 1), note = x.token(0, S0, 0, true);
        x.begin(one, F, 0);
        Due.is("24 of one", x.ends(), 1);
        x.begin(x.equate(S0, 2), F, 0);
        Due.is("24 of two that fail", x.ends(), 2);
        Due.is("24 nothing was done", x.value(0), 100);
        Due.holds("24 nothing else", !x.hasFailed() && x.waiting() == 2 && x.clock() == 0);
        x.begin(note, F, 0);
        Due.is("24 six schedules", x.ends(), 4);
        Due.is("24 no token was told", x.tokens(), 0);
        x.begin(note, F, 0);
        Due.is("24 twenty-four schedules", x.ends(), NONE);
        Due.fails("24 failed", Due.STATE, failed()::ends);
        // Agents for the step that comes behind do not act in this one.
        Tellcourt y = new Tellcourt();
        int later = y.next(told(y, 0, S0, 0));
        y.begin(y.both(later, later), 1, 0);
        Due.is("24 two agents for the next step", y.ends(), 1);
        y.step();
        Due.is("24 two tokens", y.ends(), 1);
        // Each DEFAULT brings a choice of two: 2, 4, 8 and 16 schedules.
        Tellcourt z = new Tellcourt();
        int m = told(z, 0, 0, 0), pair = z.both(m, m);
        for (int due : new int[] {1, 1, 1, NONE}) {
            int assumed = z.unless(true, UNLIKE, 0, 0, pair);
            pair = z.both(m, assumed);
            z.begin(assumed, 0, 0);
            Due.is("24 one behind the other", z.ends(), due);
            z.step();
        }
        // Of m and a BOTH of two: 2 schedules if m is taken first, 6 otherwise.
        Tellcourt w = new Tellcourt();
        int n = told(w, 0, 0, 0);
        w.begin(w.both(n, w.both(n, n)), 0, 0);
        Due.is("24 eight schedules of one queue", w.ends(), 1);
        w.step();
        w.begin(n, 0, 0);
        w.begin(n, 0, 0);
        w.begin(n, 0, 0);
        Due.is("24 six schedules of three", w.ends(), 1);
        w.begin(w.equate(0, 0), 0, 0);
        Due.is("24 twenty-four schedules of four", w.ends(), NONE);
        // WHENs that come at once are a choice, too.
        Tellcourt v = withVariables(1);
        int known = v.when(KNOWN, S0, 0, told(v, 0, S1, 0));
        int bind = v.equate(S0, 1);
        v.begin(v.unless(true, KNOWN, S0, 0, v.equate(S0, 1)), F, 0);
        v.begin(known, F, 1);
        Due.is("24 two that wait", v.ends(), 1);
        v.begin(known, F, 2);
        Due.is("24 three that wait, and two that come", v.ends(), NONE);
        Due.is("24 nothing came of it", v.tokens() + bind, 2);
        // Not barred by 30 steps, and none of them.
        Tellcourt u = new Tellcourt();
        for (int i = 0; i < 30; i++) {
            Due.is("24 before a step", u.ends(), 1);
            u.step();
        }
        Due.is("24 not barred", u.ends(), 1);
        // In a TRY there is no choice.
        Tellcourt s = new Tellcourt();
        int q = told(s, 0, 0, 0), many = chain(s, q, q, q, q, q);
        s.begin(s.attempt(many, q), 0, 0);
        Due.is("24 in a TRY", s.ends(), 1);
        s.begin(q, 0, 0);
        Due.is("24 the TRY itself is chosen", s.ends(), 1);
    }

    /** Begins two agents and answers how many ends there are. */
    private static int ofTwo(Tellcourt x, int one, int other, int a) {
        x.begin(one, a, 0);
        x.begin(other, a, 0);
        return x.ends();
    }

    private static void endsCompared() {
        // Which token came first does not matter, nor does its number.
        Tellcourt x = withVariables(2);
        int t = told(x, 0, 1, 0), s = told(x, 1, 2, 0);
        Due.is("24 tokens in another order", ofTwo(x, t, s, 0), 1);
        // A rule that takes what is there makes two ends.
        Tellcourt y = new Tellcourt();
        y.head(0, S0, ANY, false);
        y.other(0, S1, ANY, true);
        y.guard(UNLIKE, S0, S1);
        y.body(NONE, 0, 0);
        y.rule();
        Due.is("24 arguments", ofTwo(y, told(y, 0, 1, 0), told(y, 0, 2, 0), 0), 2);
        // An argument without a value is the lowest variable of its class: hidden ones differ by their numbers.
        Tellcourt z = withVariables(1);
        Due.is("24 variables", ofTwo(z, z.hide(0, told(z, 0, S0, 0)), z.hide(0, told(z, 1, S0, 0)), 0), 2);
        // Values of variables that there are now; hidden ones do not matter by themselves.
        Tellcourt w = withVariables(1);
        int keep = w.when(KNOWN, S0, 0, w.token(0, 0, 0, false));
        Due.is("24 the same values", ofTwo(w, w.hide(0, w.equate(S0, 1)), w.hide(0, w.equate(S0, 2)), F), 1);
        w.step();
        int e = w.either(w.when(HAS, 0, 0, w.equate(S0, 1)), 0, w.when(HAS + 1, 0, 0, w.equate(S0, 2)), 0);
        w.begin(w.token(0, 0, 0, false), F, 0);
        w.begin(w.token(1, 0, 0, false), F, 0);
        Due.is("24 without the EITHER", w.ends(), 1);
        w.begin(e, F, 0);
        Due.is("24 other values", w.ends(), 2);
        Due.holds("24 a WHEN stays a node", keep >= 0);
        // One fails and one does not.
        Tellcourt v = new Tellcourt();
        int stop = v.unless(true, HAS, 0, 0, v.token(1, 0, 0, false));
        Due.is("24 none fails", ofTwo(v, v.token(0, 0, 0, false), stop, 0), 1);
        Tellcourt u = withVariables(1);
        int first = u.either(u.when(UNLIKE, S0, 1, u.equate(0, 1)), 9, u.when(EQUAL, 0, 0, u.equate(0, 0)), 0);
        Due.is("24 failure is an end", ofTwo(u, u.equate(S0, 2), first, F), 2);
        Due.is("24 acts of the first schedule", u.step(), 3);
        Due.holds("24 it fails", u.hasFailed());
    }

    private static void asked() {
        Tellcourt x = withVariables(3);
        for (int bad : new int[] {-1, 3, 60, Integer.MIN_VALUE, Integer.MAX_VALUE}) {
            Due.fails("28 value " + bad, Due.PLACE, () -> x.value(bad));
            Due.fails("29 areOne " + bad, Due.PLACE, () -> x.areOne(bad, 0) ? 1 : 0);
            Due.fails("29 areOne, other " + bad, Due.PLACE, () -> x.areOne(0, bad) ? 1 : 0);
        }
        int same = x.equate(S0, S1);
        x.begin(same, F, -99);
        x.begin(same, F + 1, F + 2);
        x.step();
        Due.is("25 clock", x.clock(), 1);
        Due.holds("26 hasFailed", !x.hasFailed());
        Due.is("27 variables", x.variables(), 3);
        Due.is("28 value", x.value(0), -99);
        Due.is("28 none", x.value(1), 100);
        Due.holds("29 areOne", x.areOne(1, 2) && x.areOne(2, 1) && x.areOne(0, 0));
        Due.holds("29 not one", !x.areOne(0, 1) && !x.areOne(2, 0));
        run(x, x.equate(S0, 4), F + 2, 0);
        Due.is("28 of the class", x.value(1), 4);
        run(x, same, F, F + 1);
        Due.holds("26 failed", x.hasFailed());
        Due.is("25 the clock stays", x.clock(), 2);
        Due.is("28 the value stays", x.value(0), -99);
        Due.holds("29 not one after failing", !x.areOne(0, 1));
        Due.is("30 tokens", x.tokens(), 0);
    }

    private static void part() {
        Tellcourt x = withVariables(3);
        Due.fails("31 no token", Due.PLACE, () -> x.part(0, 9));
        x.begin(told(x, 4, S0, S1), F + 2, F + 1);
        run(x, x.token(3, S0, S1, false), 7, -7);
        for (int bad : new int[] {-1, 2, 100, Integer.MIN_VALUE, Integer.MAX_VALUE}) {
            Due.fails("31 token " + bad, Due.PLACE, () -> x.part(bad, 0));
        }
        for (int bad : new int[] {-1, 5, Integer.MIN_VALUE, Integer.MAX_VALUE}) {
            Due.fails("31 part " + bad, Due.RANGE, () -> x.part(0, bad));
        }
        tokenIs("31", x, 0, 4, F + 2, F + 1, 1, 1);
        tokenIs("31 gone", x, 1, 3, 7, -7, 0, 0);
        run(x, x.equate(S0, S1), F + 2, F);
        tokenIs("31 the lowest of the class", x, 0, 4, F, F + 1, 1, 1);
        run(x, x.equate(S0, S1), F + 1, F + 2);
        tokenIs("31 of all three", x, 0, 4, F, F, 1, 1);
        run(x, x.equate(S0, S1), F + 1, 0);
        tokenIs("31 its value", x, 0, 4, 0, 0, 1, 1);
        Due.is("30 tokens", x.tokens(), 2);
    }

    private static void isMadeBy() {
        Tellcourt x = new Tellcourt();
        Due.fails("32 no token", Due.PLACE, () -> x.isMadeBy(0, 0) ? 1 : 0);
        int t = told(x, 0, S0, 0);
        // The one with the lowest number, of those that stand.
        x.begin(t, 1, 0);
        x.begin(t, 1, 0);
        int w = x.when(HAS, S0, 0, x.both(told(x, 1, S0, 0), x.next(x.when(HAS + 1, S0, 0, told(x, 2, S0, 0)))));
        x.begin(w, 1, 0);
        x.step();
        for (int bad : new int[] {-1, 3, Integer.MIN_VALUE, Integer.MAX_VALUE}) {
            Due.fails("32 token " + bad, Due.PLACE, () -> x.isMadeBy(bad, 0) ? 1 : 0);
            Due.fails("32 other " + bad, Due.PLACE, () -> x.isMadeBy(0, bad) ? 1 : 0);
        }
        Due.holds("32 by the lowest", x.isMadeBy(2, 0) && !x.isMadeBy(2, 1));
        Due.holds("32 not by itself", !x.isMadeBy(2, 2) && !x.isMadeBy(0, 2) && !x.isMadeBy(0, 0));
        x.step();
        Due.holds("32 the agent keeps its slice", x.isMadeBy(3, 0) && x.isMadeBy(3, 2) && !x.isMadeBy(3, 1));
        // Through a rule, and tokens beyond the 64th.
        Tellcourt y = new Tellcourt();
        int a = y.token(5, 0, 0, false), m = told(y, 0, 1, 0);
        for (int round = 0; round < 3; round++) {
            for (int i = 0; i < 22; i++) {
                y.begin(a, 0, 0);
            }
            y.step();
        }
        run(y, m, 0, 0);
        y.head(0, S0, ANY, true);
        y.other(1, S0, ANY, true);
        y.body(2, S0, S0);
        y.rule();
        run(y, y.when(HAS, 1, 0, told(y, 1, 1, 0)), 0, 0);
        Due.is("32 tokens", y.tokens(), 69);
        Due.holds("32 a slice with high numbers", y.isMadeBy(67, 66) && !y.isMadeBy(67, 2) && !y.isMadeBy(67, 65));
        Due.holds("32 a rule's token", y.isMadeBy(68, 66) && y.isMadeBy(68, 67) && !y.isMadeBy(68, 3) && !y.isMadeBy(68, 68));
        run(y, y.when(HAS + 2, 1, 1, told(y, 3, 0, 0)), 0, 0);
        Due.holds("32 the slice of that", y.isMadeBy(69, 66) && y.isMadeBy(69, 67) && y.isMadeBy(69, 68));
    }

    private static void standing() {
        Tellcourt x = withVariables(2);
        int t = told(x, 0, S0, 0), p = x.token(1, S0, 0, false);
        x.begin(t, F, 0);
        x.begin(p, F, 0);
        x.begin(x.each(t), F + 1, 0);
        x.step();
        Due.is("33 standing", x.standing(), 2);
        Due.is("34 standingAnew", x.standingAnew(), 2);
        x.head(0, S0, ANY, false);
        x.guard(KNOWN, S0, 0);
        x.body(2, S0, 0);
        x.rule();
        x.seed(9);
        x.define(2, t);
        x.variable();
        x.begin(x.call(2, S0, S1), F + 2, 0);
        x.begin(x.lot(1, t, 1, p), F + 1, 0);
        x.begin(x.attempt(x.both(t, x.equate(0, 1)), t), F + 1, 0);
        x.step();
        x.begin(x.equate(S0, 3), F + 1, 0);
        Due.is("34 again", x.standingAnew(), x.standing());
        x.step();
        x.define(2, p);
        Due.is("34 the rule fired", x.standing(), x.standingAnew());
        Due.is("34 all as before", x.tokens() + 100 * x.fired(0), x.tokens() + 400);
        Due.is("34 nothing changed", x.waiting() + 10 * x.clock(), 31);
        Tellcourt y = failed();
        Due.is("34 of a failed one", y.standingAnew(), y.standing());
        Due.is("35 waiting of a failed one", y.waiting(), 0);
    }

    private static void fired() {
        Tellcourt x = new Tellcourt();
        Due.fails("36 no rule", Due.PLACE, () -> x.fired(0));
        x.head(0, ANY, ANY, true);
        x.body(1, 0, 0);
        Due.fails("36 not made yet", Due.PLACE, () -> x.fired(0));
        x.rule();
        for (int bad : new int[] {-1, 1, 8, Integer.MIN_VALUE, Integer.MAX_VALUE}) {
            Due.fails("36 rule " + bad, Due.PLACE, () -> x.fired(bad));
        }
        Due.is("36 not yet", x.fired(0), 0);
        int t = told(x, 0, 0, 0);
        x.begin(t, 0, 0);
        run(x, t, 0, 0);
        Due.is("36 twice", x.fired(0), 2);
    }

    private static void firing() {
        // Two heads: the active one as the first head first, the others by rising numbers.
        Tellcourt x = new Tellcourt();
        x.head(0, S0, ANY, true);
        x.other(0, S1, ANY, true);
        x.body(1, S0, S1);
        x.rule();
        int t = told(x, 0, S0, 0);
        x.begin(t, 1, 0);
        x.begin(t, 2, 0);
        run(x, t, 3, 0);
        int[][] due = {{2, 1}, {1, 2}, {3, 1}, {3, 2}, {1, 3}, {2, 3}};
        int at = 0;
        for (int i = 0; i < x.tokens(); i++) {
            if (x.part(i, 0) == 1) {
                tokenIs("36 pair " + at, x, i, 1, due[at][0], due[at][1]);
                at++;
            }
        }
        Due.is("36 six pairs", at, 6);
        // The removed one is gone before the bodies; the active one that is gone fires no more.
        Tellcourt y = new Tellcourt();
        y.head(0, S0, ANY, false);
        y.other(1, S0, ANY, true);
        y.body(2, S0, 0);
        y.body(0, S0, 9);
        y.rule();
        y.head(2, ANY, ANY, true);
        y.guard(HAS + 0, 1, 0);
        y.body(3, 0, 0);
        y.rule();
        y.head(0, ANY, 0, true);
        y.body(4, 0, 0);
        y.rule();
        y.begin(told(y, 0, 1, 0), 0, 0);
        // Each firing tells two tokens: the 50th of them would tell the 101st one.
        Due.is("36 acts", run(y, told(y, 1, 1, 0), 0, 0), 52);
        Due.is("36 the removed one does not stand for the body", y.fired(1), 0);
        Due.is("36 it fired when it was told", y.fired(2), 1);
        Due.holds("36 endless", y.hasFailed());
        // A value is matched by what is EQUAL to it; ANY by all; the rule variable stands for the first argument.
        Tellcourt z = withVariables(3);
        z.head(0, 5, S2, true);
        z.other(1, S2, ANY, true);
        z.body(2, S2, 5);
        z.rule();
        int zero = told(z, 0, S0, S1), one = told(z, 1, S0, S1), same = z.equate(S0, S1);
        z.begin(same, F, 5);
        z.begin(same, F + 1, 7);
        z.begin(zero, F, F + 1);
        z.begin(zero, F + 2, F + 1);
        run(z, one, 7, F + 2);
        Due.is("36 one match", z.fired(0), 1);
        tokenIs("36 it stands for the first", z, 3, 2, 7, 5, 1, 1);
        run(z, same, F + 1, F + 2);
        Due.is("36 another value does not match 5", z.fired(0), 1);
        Tellcourt w = withVariables(2);
        w.head(0, S0, S1, true);
        w.other(1, S1, S0, true);
        w.body(NONE, S0, 8);
        w.rule();
        w.begin(told(w, 0, S0, S1), F, 3);
        run(w, told(w, 1, S1, S0), F, 3);
        Due.is("36 the variable of the head is told", w.value(0), 8);
        Due.is("36 and the other is not", w.value(1), 100);
        lasting();
    }

    private static void lasting() {
        Tellcourt x = new Tellcourt();
        x.head(0, ANY, ANY, true);
        x.other(1, ANY, ANY, true);
        x.body(2, 0, 0);
        x.rule();
        x.begin(told(x, 0, 0, 0), 0, 0);
        x.begin(told(x, 1, 0, 0), 0, 0);
        x.step();
        tokenIs("36 all last", x, 2, 2, 0, 0, 1, 1);
        run(x, x.token(1, 0, 0, false), 0, 0);
        tokenIs("36 one does not", x, 4, 2, 0, 0, 0, 0);
        run(x, x.token(0, 0, 0, false), 0, 0);
        tokenIs("36 the other does not", x, 6, 2, 0, 0, 0, 0);
    }

    private static void waking() {
        // A class that gets a value wakes its tokens by rising numbers, one behind the other, before the next body.
        Tellcourt x = withVariables(3);
        x.head(0, S0, S1, true);
        x.guard(KNOWN, S0, 0);
        x.body(1, S0, S1);
        x.rule();
        x.head(2, S0, S1, true);
        x.body(NONE, S0, S1);
        x.body(3, 0, 0);
        x.rule();
        int t = told(x, 0, S0, S1), same = x.equate(S0, S1);
        x.begin(t, F, 1);
        x.begin(t, F + 1, 2);
        x.begin(t, F + 2, 3);
        x.begin(same, F, F + 1);
        x.step();
        Due.is("22 no value yet", x.fired(0), 0);
        Due.is("22 acts", run(x, told(x, 2, S0, S1), F + 1, 7), 4);
        tokenIs("22 the first wakes", x, 4, 1, 7, 1, 1, 1);
        tokenIs("22 then the second", x, 5, 1, 7, 2, 1, 1);
        tokenIs("22 then the next body", x, 6, 3, 0, 0, 1, 1);
        Due.is("22 the third does not", x.tokens(), 7);
        run(x, same, F + 2, F);
        tokenIs("22 joining wakes it", x, 7, 1, 7, 3, 1, 1);
        Due.is("22 nothing is repeated", x.fired(0), 3);
        // Two classes with the same value become one: their tokens wake, and meet a rule that was made since.
        Tellcourt y = withVariables(2);
        int ty = told(y, 0, S0, S1), sy = y.equate(S0, S1);
        y.begin(sy, F, 4);
        y.begin(sy, F + 1, 4);
        y.begin(ty, F, 0);
        y.begin(ty, 4, F + 1);
        y.begin(ty, 4, 4);
        y.step();
        y.head(0, S0, S1, true);
        y.body(5, S0, S1);
        y.rule();
        run(y, sy, F, 4);
        Due.is("22 nothing new, nothing wakes", y.fired(0), 0);
        run(y, sy, F, F + 1);
        Due.is("22 those of the class wake", y.fired(0), 2);
        // One that stands no more when it is its turn is passed over.
        Tellcourt z = withVariables(1);
        z.head(0, S0, 1, true);
        z.other(0, S0, 2, false);
        z.guard(KNOWN, S0, 0);
        z.body(1, S0, 0);
        z.rule();
        z.head(0, ANY, 2, true);
        z.guard(EQUAL, 0, 1);
        z.body(2, 0, 0);
        z.rule();
        int tz = told(z, 0, S0, S1);
        z.begin(tz, F, 1);
        z.begin(tz, F, 2);
        z.begin(z.equate(S0, 6), F, 0);
        z.step();
        Due.is("22 it fired once", z.fired(0), 1);
        Due.is("22 the second is gone", z.part(1, 3), 0);
    }

    private static void history() {
        // A rule that removes none does not fire again for the same tokens, but for the same in other places.
        Tellcourt x = withVariables(2);
        x.head(0, ANY, ANY, true);
        x.other(0, ANY, ANY, true);
        x.body(1, 0, 0);
        x.rule();
        int t = told(x, 0, S0, S1), same = x.equate(S0, S1);
        x.begin(t, F, 0);
        run(x, t, F, 1);
        Due.is("36 both ways", x.fired(0), 2);
        run(x, same, F, F + 1);
        run(x, same, F, 3);
        Due.is("36 not again", x.fired(0), 2);
        run(x, t, 0, 0);
        Due.is("36 with a third one", x.fired(0), 6);
        // Tokens beyond the 64th are told apart as well.
        Tellcourt y = withVariables(1);
        int pass = y.token(5, 0, 0, false);
        for (int round = 0; round < 3; round++) {
            for (int i = 0; i < 21; i++) {
                y.begin(pass, 0, 0);
            }
            y.step();
        }
        y.head(0, S0, ANY, true);
        y.other(1, S0, ANY, true);
        y.body(2, S0, 0);
        y.rule();
        int zero = told(y, 0, S0, 0), one = told(y, 1, S0, 0);
        y.begin(zero, F, 0);
        y.begin(one, F, 0);
        run(y, one, F, 0);
        Due.is("36 63 with 64 and with 65", y.fired(0), 2);
        run(y, y.equate(S0, 2), F, 0);
        Due.is("36 not once more", y.fired(0), 2);
    }

    private static void chance() {
        Tellcourt x = new Tellcourt();
        int t = x.equate(0, 0), l = x.lot(9, t, 2, t), all = l;
        for (int i = 0; i < 9; i++) {
            all = x.both(l, all);
        }
        long above = 1;
        long below = 1;
        int seed = 1;
        for (int round = 0; round < 3; round++) {
            run(x, all, 0, 0);
            for (int i = 0; i < 10; i++) {
                seed = (seed * 75 + 74) % 65537;
                above = above * (seed % 11 < 9 ? 9 : 2) % 1000003;
                below = below * 11 % 1000003;
            }
        }
        Due.is("37 above", x.chance(true), (int) above);
        Due.is("37 below", x.chance(false), (int) below);
        // Cut down: 2/4, then 3/6 or 3/6, is 1/4.
        Tellcourt y = new Tellcourt();
        int n = y.equate(0, 0);
        run(y, y.lot(2, n, 2, n), 0, 0);
        Due.holds("37 one half", y.chance(true) == 1 && y.chance(false) == 2);
        run(y, y.lot(3, n, 3, n), 0, 0);
        Due.holds("37 one quarter", y.chance(true) == 1 && y.chance(false) == 4);
        // 8/15, 7/14 and 8/17 and 6/13, each whichever is drawn.
        run(y, y.lot(7, n, 7, n), 0, 0);
        Due.holds("37 one eighth", y.chance(true) == 1 && y.chance(false) == 8);
        run(y, y.lot(8, n, 8, n), 0, 0);
        Due.holds("37 one sixteenth", y.chance(true) == 1 && y.chance(false) == 16);
        y.seed(0);
        // 74 by 17 is 6, which is less than 8: 8/17 cuts the 16 to 2.
        run(y, y.lot(8, n, 9, n), 0, 0);
        Due.holds("37 one by 34", y.chance(true) == 1 && y.chance(false) == 34);
        y.seed(0);
        // 74 by 13 is 9, which is not less than 6: 7/13.
        run(y, y.lot(6, n, 7, n), 0, 0);
        Due.holds("37 seven by 442", y.chance(true) == 7 && y.chance(false) == 442);
        y.seed(0);
        // 74 by 14 is 4, which is less than 5: 5/14.
        run(y, y.lot(5, n, 9, n), 0, 0);
        Due.holds("37 five by 884", y.chance(true) == 5 && y.chance(false) == 884);
    }

    private static void fullNodes() {
        Tellcourt x = new Tellcourt();
        x.token(0, 0, 0, true);
        int w = x.when(EQUAL, 0, 0, 0);
        for (int i = 2; i < 60; i++) {
            Due.is("the 60 nodes", x.equate(0, 0), i);
        }
        Due.fails("3 61st", Due.STATE, () -> x.equate(0, 0));
        Due.fails("3 wrong first", Due.RANGE, () -> x.equate(0, 100));
        Due.fails("4 61st", Due.STATE, () -> x.token(0, 0, 0, true));
        Due.fails("5 61st", Due.STATE, () -> x.both(0, 59));
        Due.fails("5 wrong first", Due.PLACE, () -> x.both(0, 60));
        Due.fails("6 61st", Due.STATE, () -> x.when(EQUAL, 0, 0, 59));
        Due.fails("7 61st", Due.STATE, () -> x.either(w, 0, w, 9));
        Due.fails("8 61st", Due.STATE, () -> x.hide(0, 59));
        Due.fails("9 61st", Due.STATE, () -> x.call(0, 0, 0));
        Due.fails("10 61st", Due.STATE, () -> x.next(59));
        Due.fails("11 61st", Due.STATE, () -> x.each(59));
        Due.fails("12 61st", Due.STATE, () -> x.unless(true, KNOWN, 0, 0, 59));
        Due.fails("13 61st", Due.STATE, () -> x.lot(1, 0, 9, 59));
        Due.fails("14 61st", Due.STATE, () -> x.attempt(0, 59));
        Due.is("15 the 60th is defined", x.define(0, 59), NONE);
        Due.is("21 the 60th is begun", x.begin(59, 0, 0), 1);
    }
}
