import java.util.EnumMap;
import java.util.EnumSet;
import java.util.Map;
import java.util.Set;
import java.util.function.IntSupplier;

/**
 * The bounds of each argument: the last that is allowed and the first that is not, on both sides, and each call that
 * is refused, with the exception that is due: the one that the throws clause names first where several apply.
 * Each refusal is tried in all the scenes that it is due in, and must leave nothing behind: an object that refused
 * answers all that is asked of it afterwards as its twin does, which never heard of the call.
 */
public final class RefusalTests extends Scenes {
    private static final int MIN = Integer.MIN_VALUE, MAX = Integer.MAX_VALUE;
    private static final int[] NO_TERMS = {-100, 100, 199, 204, 299, ANY, F, F + 1, MIN, MAX};
    private static final int[] NO_PATTERNS = {-100, 100, 199, 204, 299, 301, F, F + 1, MIN, MAX};
    private static final int[] NO_SORTS = {-1, 6, MIN, MAX};
    private static final int[] NO_CONDITIONS = {-1, 4, 9, 16, MIN, MAX};
    private static final int[] NO_DEFINITIONS = {-1, 6, MIN, MAX};
    private static final int[] CONDITIONS = {EQUAL, UNLIKE, LESS, KNOWN, HAS, HAS + 1, HAS + 2, HAS + 3, HAS + 4, HAS + 5};
    private static final int[] TERMS = {-99, -1, 0, 99, S0, S3};

    /** How far an object has come. In all but FRESH, MADE and FULL a rule is begun whose only head has S0 and S2. */
    private enum Scene { FRESH, MADE, ONE_HEAD, TWO_HEADS, GUARDED, BODIED, FULL_BODIES, FULL, FAILED }

    private static final Set<Scene> ALL = EnumSet.allOf(Scene.class);
    private static final Set<Scene> NONE_BEGUN = EnumSet.of(Scene.FRESH, Scene.MADE);
    private static final Set<Scene> WITH_NODES = EnumSet.complementOf(EnumSet.of(Scene.FRESH));

    // The nodes that are in each scene but FRESH, one of each kind.
    private static final int TOKEN = 0, LASTING = 1, WHEN = 2, ASK = 3, EQUATE = 4, BOTH = 5, EITHER = 6, HIDE = 7;
    private static final int CALL = 8, NEXT = 9, EACH = 10, UNLESS = 11, DEFAULT = 12, LOT = 13, TRY = 14;
    private static final int KINDS = 15;

    private record Counts(int nodes, int variables, int tokens, int rules) { }

    private interface Call {
        int on(Tellcourt x, Counts n);
    }

    private static final Map<Scene, String> TWINS = new EnumMap<>(Scene.class);

    private RefusalTests() {
    }

    public static void main(String[] args) {
        for (Scene scene : ALL) {
            TWINS.put(scene, after(made(scene)));
        }
        variable();
        equate();
        token();
        both();
        when();
        either();
        hide();
        call();
        nextAndEach();
        unless();
        lot();
        attempt();
        define();
        head();
        other();
        guard();
        body();
        rule();
        begin();
        stepAndSeedAndEnds();
        asked();
        Due.end("RefusalTests");
    }

    // ---- the scenes

    private static Tellcourt made(Scene scene) {
        if (scene == Scene.FRESH) {
            return new Tellcourt();
        }
        if (scene == Scene.FULL) {
            return full();
        }
        Tellcourt x = withVariables(3);
        nodes(x);
        x.define(0, BOTH);
        x.define(5, LASTING);
        x.head(0, S0, S1, true);
        x.body(1, S1, S0);
        x.rule();
        x.begin(LASTING, F, 1);
        x.begin(LOT, 2, 3);
        x.begin(EACH, F + 1, 5);
        x.step();
        x.begin(WHEN, F + 2, 0);
        if (scene == Scene.FAILED) {
            x.begin(NEXT, 7, 7);
            x.begin(x.equate(0, 1), 0, 0);
            x.step();
        }
        if (scene == Scene.MADE) {
            return x;
        }
        x.head(0, S0, S2, false);
        if (scene == Scene.TWO_HEADS) {
            x.other(1, S2, ANY, true);
        }
        if (scene == Scene.GUARDED) {
            x.guard(UNLIKE, S0, S2);
        }
        if (scene == Scene.BODIED || scene == Scene.FULL_BODIES) {
            x.body(2, S2, S0);
        }
        if (scene == Scene.FULL_BODIES) {
            x.body(NONE, S0, S0);
        }
        return x;
    }

    private static void nodes(Tellcourt x) {
        x.token(0, S0, S1, false);
        told(x, 0, S0, S1);
        x.when(KNOWN, S0, 0, LASTING);
        x.when(HAS, S0, S1, LASTING);
        x.equate(S0, S1);
        x.both(TOKEN, EQUATE);
        x.either(WHEN, 1, ASK, 1);
        x.hide(0, LASTING);
        x.call(0, S0, S1);
        x.next(LASTING);
        x.each(LASTING);
        x.unless(false, KNOWN, S0, 0, LASTING);
        x.unless(true, KNOWN, S0, 0, LASTING);
        x.lot(1, LASTING, 2, WHEN);
        x.attempt(LASTING, TOKEN);
    }

    /** 60 variables, 60 nodes, 100 tokens, 8 rules and one that is full, 30 steps, and 30 agents for the next one. */
    private static Tellcourt full() {
        Tellcourt x = withVariables(60);
        nodes(x);
        for (int i = KINDS; i < 60; i++) {
            x.token(5, i, 0, true);
        }
        for (int i = 0; i < 25; i++) {
            for (int node = 59; node > 55; node--) {
                x.begin(node, 0, 0);
            }
            x.step();
        }
        for (int i = 25; i < 30; i++) {
            x.step();
        }
        for (int i = 0; i <= 8; i++) {
            x.head(5, S0, ANY, true);
            x.other(5, S2, ANY, i > 0);
            x.guard(LESS, S0, S2);
            x.body(4, S0, i);
            x.body(4, S2, i);
            if (i < 8) {
                x.rule();
            }
        }
        x.define(0, LASTING);
        for (int i = 0; i < 30; i++) {
            x.begin(LASTING, i, F + i);
        }
        return x;
    }

    // ---- what an object answers afterwards

    private static void say(StringBuilder all, IntSupplier call) {
        try {
            all.append(call.getAsInt());
        } catch (IllegalStateException | IllegalArgumentException | IndexOutOfBoundsException e) {
            all.append(e.getClass().getSimpleName());
        }
        all.append(' ');
    }

    /** All that can be asked without changing anything. */
    private static void ask(StringBuilder all, Tellcourt x) {
        say(all, x::clock);
        say(all, () -> x.hasFailed() ? 1 : 0);
        say(all, x::variables);
        say(all, x::tokens);
        say(all, x::standing);
        say(all, x::standingAnew);
        say(all, x::waiting);
        say(all, () -> x.chance(true));
        say(all, () -> x.chance(false));
        say(all, x::ends);
        for (int i = 0; i < x.variables(); i++) {
            int v = i;
            say(all, () -> x.value(v));
            say(all, () -> x.areOne(v, 0) ? 1 : 0);
        }
        for (int i = 0; i < x.tokens(); i++) {
            int t = i;
            for (int p = 0; p < 5; p++) {
                int part = p;
                say(all, () -> x.part(t, part));
            }
            for (int j = 0; j < i; j++) {
                int other = j;
                say(all, () -> x.isMadeBy(t, other) ? 1 : 0);
            }
        }
        for (int i = 0; i < 9; i++) {
            int r = i;
            say(all, () -> x.fired(r));
        }
    }

    /** What an object answers to all that may come after a refusal: the begun rule, definitions, x, and more steps. */
    private static String after(Tellcourt x) {
        StringBuilder all = new StringBuilder();
        ask(all, x);
        say(all, () -> x.other(1, S1, S2, true));
        say(all, () -> x.guard(UNLIKE, S0, S2) ? 1 : 0);
        say(all, () -> x.body(3, S0, S2));
        say(all, () -> x.body(3, S2, S1));
        say(all, () -> x.body(3, 1, 1));
        say(all, x::rule);
        say(all, () -> x.equate(S0, S1));
        say(all, () -> told(x, 0, S0, S1));
        say(all, () -> told(x, 1, S1, S0));
        say(all, x::variable);
        for (int i = 0; i < 6; i++) {
            int d = i;
            say(all, () -> x.define(d, 0));
        }
        for (int i = KINDS; i < KINDS + 4; i++) {
            int node = i;
            say(all, () -> x.begin(node, 4, 5));
        }
        say(all, () -> x.begin(LOT, 4, 5));
        say(all, x::step);
        ask(all, x);
        say(all, () -> x.seed(3));
        say(all, () -> x.begin(TRY, 8, 9));
        say(all, x::step);
        ask(all, x);
        say(all, () -> x.head(0, 0, 0, true) ? 1 : 0);
        return all.toString();
    }

    // ---- refusals and answers

    private static Counts counts(Scene scene, Tellcourt x) {
        int nodes = scene == Scene.FRESH ? 0 : scene == Scene.FULL ? 60 : scene == Scene.FAILED ? KINDS + 1 : KINDS;
        return new Counts(nodes, x.variables(), x.tokens(), scene == Scene.FRESH ? 0 : scene == Scene.FULL ? 8 : 1);
    }

    private static void refused(Set<Scene> scenes, String due, String what, Call call) {
        for (Scene scene : scenes) {
            Tellcourt x = made(scene);
            Counts n = counts(scene, x);
            Due.fails(what + " in " + scene, due, () -> call.on(x, n));
            Due.holds(what + " in " + scene + ": nothing changed behind it", after(x).equals(TWINS.get(scene)));
        }
    }

    private static void place(String what, Call call) {
        refused(ALL, Due.PLACE, what, call);
    }

    private static void range(String what, Call call) {
        refused(ALL, Due.RANGE, what, call);
    }

    private static void answers(Scene scene, String what, int due, Call call) {
        Tellcourt x = made(scene);
        Counts n = counts(scene, x);
        Due.is(what + " in " + scene, call.on(x, n), due);
    }

    /** A node that can be made: its number is the next one; and it is refused if there are 60. */
    private static void node(String what, Call call) {
        answers(Scene.ONE_HEAD, what, KINDS, call);
        answers(Scene.FAILED, what, KINDS + 1, call);
        refused(EnumSet.of(Scene.FULL), Due.STATE, what + ", the 61st", call);
    }

    private static int[] noNodes(int nodes) {
        return new int[] {-1, nodes, 60, MIN, MAX};
    }

    // ---- promises 2 to 15

    private static void variable() {
        answers(Scene.FRESH, "2 the first", 0, (x, n) -> x.variable());
        answers(Scene.ONE_HEAD, "2 one more", 3, (x, n) -> x.variable());
        refused(EnumSet.of(Scene.FULL), Due.STATE, "2 the 61st", (x, n) -> x.variable());
        refused(EnumSet.of(Scene.FAILED), Due.STATE, "2 failed", (x, n) -> x.variable());
    }

    private static void equate() {
        for (int term : TERMS) {
            node("3 a " + term, (x, n) -> x.equate(term, 0));
            node("3 b " + term, (x, n) -> x.equate(0, term));
        }
        for (int bad : NO_TERMS) {
            range("3 a " + bad, (x, n) -> x.equate(bad, 0));
            range("3 b " + bad, (x, n) -> x.equate(0, bad));
        }
    }

    private static void token() {
        node("4 the least sort", (x, n) -> x.token(0, 0, 0, true));
        node("4 the greatest sort", (x, n) -> x.token(5, 0, 0, false));
        for (int bad : NO_SORTS) {
            range("4 sort " + bad, (x, n) -> x.token(bad, 0, 0, true));
        }
        for (int term : TERMS) {
            node("4 a " + term, (x, n) -> x.token(0, term, 0, true));
            node("4 b " + term, (x, n) -> x.token(0, 0, term, true));
        }
        for (int bad : NO_TERMS) {
            range("4 a " + bad, (x, n) -> x.token(0, bad, 0, true));
            range("4 b " + bad, (x, n) -> x.token(5, 0, bad, false));
        }
    }

    private static void both() {
        node("5 the first node twice", (x, n) -> x.both(0, 0));
        node("5 the last node twice", (x, n) -> x.both(n.nodes - 1, n.nodes - 1));
        for (int i = 0; i < 5; i++) {
            int which = i;
            place("5 one, no node " + i, (x, n) -> x.both(noNodes(n.nodes)[which], 0));
            place("5 other, no node " + i, (x, n) -> x.both(0, noNodes(n.nodes)[which]));
        }
    }

    private static void when() {
        node("6 the first node", (x, n) -> x.when(EQUAL, 0, 0, 0));
        node("6 the last node", (x, n) -> x.when(EQUAL, 0, 0, n.nodes - 1));
        for (int condition : CONDITIONS) {
            node("6 condition " + condition, (x, n) -> x.when(condition, 0, 0, 0));
            for (int bad : NO_TERMS) {
                refused(WITH_NODES, Due.RANGE, "6 a " + bad + " of " + condition, (x, n) -> x.when(condition, bad, 0, 0));
                if (condition != KNOWN) {
                    refused(WITH_NODES, Due.RANGE, "6 b " + bad + " of " + condition, (x, n) -> x.when(condition, 0, bad, 0));
                } else {
                    node("6 b " + bad + " of KNOWN", (x, n) -> x.when(KNOWN, 0, bad, 0));
                }
            }
        }
        for (int term : TERMS) {
            node("6 a " + term, (x, n) -> x.when(UNLIKE, term, 0, 0));
            node("6 b " + term, (x, n) -> x.when(HAS + 5, 0, term, 0));
        }
        for (int bad : NO_CONDITIONS) {
            refused(WITH_NODES, Due.RANGE, "6 condition " + bad, (x, n) -> x.when(bad, 0, 0, 0));
        }
        for (int i = 0; i < 5; i++) {
            int which = i;
            place("6 no node " + i, (x, n) -> x.when(EQUAL, 0, 0, noNodes(n.nodes)[which]));
            place("6 no node " + i + ", and no condition", (x, n) -> x.when(-1, 0, 0, noNodes(n.nodes)[which]));
            place("6 no node " + i + ", and no terms", (x, n) -> x.when(EQUAL, 100, -100, noNodes(n.nodes)[which]));
        }
    }

    private static void either() {
        node("7 the least priorities", (x, n) -> x.either(WHEN, 0, ASK, 0));
        node("7 the greatest priorities", (x, n) -> x.either(WHEN, 9, ASK, 9));
        node("7 one WHEN twice", (x, n) -> x.either(ASK, 0, ASK, 9));
        for (int i = 0; i < KINDS; i++) {
            int kind = i;
            if (kind != WHEN && kind != ASK) {
                refused(WITH_NODES, Due.RANGE, "7 one of the kind " + kind, (x, n) -> x.either(kind, 0, ASK, 0));
                refused(WITH_NODES, Due.RANGE, "7 other of the kind " + kind, (x, n) -> x.either(WHEN, 0, kind, 0));
            }
        }
        for (int bad : new int[] {-1, 10, MIN, MAX}) {
            refused(WITH_NODES, Due.RANGE, "7 first " + bad, (x, n) -> x.either(WHEN, bad, ASK, 0));
            refused(WITH_NODES, Due.RANGE, "7 last " + bad, (x, n) -> x.either(WHEN, 9, ASK, bad));
        }
        for (int i = 0; i < 5; i++) {
            int which = i;
            place("7 one, no node " + i, (x, n) -> x.either(noNodes(n.nodes)[which], 0, WHEN, 0));
            place("7 other, no node " + i, (x, n) -> x.either(WHEN, 0, noNodes(n.nodes)[which], 0));
            place("7 one, no node " + i + ", and all else wrong", (x, n) -> x.either(noNodes(n.nodes)[which], -1, TOKEN, 10));
            place("7 other, no node " + i + ", and all else wrong", (x, n) -> x.either(TOKEN, 10, noNodes(n.nodes)[which], -1));
        }
    }

    private static void hide() {
        node("8 the first slot and node", (x, n) -> x.hide(0, 0));
        node("8 the last slot and node", (x, n) -> x.hide(3, n.nodes - 1));
        for (int bad : new int[] {-1, 4, S0, S3, MIN, MAX}) {
            refused(WITH_NODES, Due.RANGE, "8 slot " + bad, (x, n) -> x.hide(bad, 0));
        }
        for (int i = 0; i < 5; i++) {
            int which = i;
            place("8 no node " + i, (x, n) -> x.hide(0, noNodes(n.nodes)[which]));
            place("8 no node " + i + ", and no slot", (x, n) -> x.hide(4, noNodes(n.nodes)[which]));
        }
    }

    private static void call() {
        answers(Scene.FRESH, "9 without any node", 0, (x, n) -> x.call(0, 0, 0));
        node("9 the first definition", (x, n) -> x.call(0, 0, 0));
        node("9 the last definition", (x, n) -> x.call(5, 0, 0));
        for (int term : TERMS) {
            node("9 a " + term, (x, n) -> x.call(1, term, 0));
            node("9 b " + term, (x, n) -> x.call(1, 0, term));
        }
        for (int bad : NO_TERMS) {
            range("9 a " + bad, (x, n) -> x.call(0, bad, 0));
            range("9 b " + bad, (x, n) -> x.call(5, 0, bad));
        }
        for (int bad : NO_DEFINITIONS) {
            place("9 definition " + bad, (x, n) -> x.call(bad, 0, 0));
            place("9 definition " + bad + ", and no terms", (x, n) -> x.call(bad, 100, -100));
        }
    }

    private static void nextAndEach() {
        node("10 the first node", (x, n) -> x.next(0));
        node("10 the last node", (x, n) -> x.next(n.nodes - 1));
        node("11 the first node", (x, n) -> x.each(0));
        node("11 the last node", (x, n) -> x.each(n.nodes - 1));
        for (int i = 0; i < 5; i++) {
            int which = i;
            place("10 no node " + i, (x, n) -> x.next(noNodes(n.nodes)[which]));
            place("11 no node " + i, (x, n) -> x.each(noNodes(n.nodes)[which]));
        }
    }

    private static void unless() {
        for (int flag = 0; flag < 2; flag++) {
            boolean isDefault = flag == 1;
            String what = isDefault ? "12 DEFAULT, " : "12 UNLESS, ";
            node(what + "the first node", (x, n) -> x.unless(isDefault, EQUAL, 0, 0, 0));
            node(what + "the last node", (x, n) -> x.unless(isDefault, EQUAL, 0, 0, n.nodes - 1));
            for (int condition : CONDITIONS) {
                node(what + "condition " + condition, (x, n) -> x.unless(isDefault, condition, 0, 0, 0));
            }
            for (int term : TERMS) {
                node(what + "a " + term, (x, n) -> x.unless(isDefault, LESS, term, 0, 0));
                node(what + "b " + term, (x, n) -> x.unless(isDefault, HAS, 0, term, 0));
            }
            for (int bad : NO_TERMS) {
                refused(WITH_NODES, Due.RANGE, what + "a " + bad, (x, n) -> x.unless(isDefault, EQUAL, bad, 0, 0));
                refused(WITH_NODES, Due.RANGE, what + "b " + bad, (x, n) -> x.unless(isDefault, HAS + 5, 0, bad, 0));
                refused(WITH_NODES, Due.RANGE, what + "a " + bad + " of KNOWN", (x, n) -> x.unless(isDefault, KNOWN, bad, 0, 0));
                node(what + "b " + bad + " of KNOWN", (x, n) -> x.unless(isDefault, KNOWN, 0, bad, 0));
            }
            for (int bad : NO_CONDITIONS) {
                refused(WITH_NODES, Due.RANGE, what + "condition " + bad, (x, n) -> x.unless(isDefault, bad, 0, 0, 0));
            }
            for (int i = 0; i < 5; i++) {
                int which = i;
                place(what + "no node " + i, (x, n) -> x.unless(isDefault, EQUAL, 0, 0, noNodes(n.nodes)[which]));
                place(what + "no node " + i + ", and all else wrong", (x, n) -> x.unless(isDefault, 4, 100, -100, noNodes(n.nodes)[which]));
            }
        }
    }

    private static void lot() {
        node("13 the least weights", (x, n) -> x.lot(1, 0, 1, 0));
        node("13 the greatest weights", (x, n) -> x.lot(9, n.nodes - 1, 9, n.nodes - 1));
        for (int bad : new int[] {0, 10, -1, MIN, MAX}) {
            refused(WITH_NODES, Due.RANGE, "13 weight " + bad, (x, n) -> x.lot(bad, 0, 1, 0));
            refused(WITH_NODES, Due.RANGE, "13 more " + bad, (x, n) -> x.lot(9, 0, bad, 0));
        }
        for (int i = 0; i < 5; i++) {
            int which = i;
            place("13 one, no node " + i, (x, n) -> x.lot(1, noNodes(n.nodes)[which], 1, 0));
            place("13 other, no node " + i, (x, n) -> x.lot(1, 0, 1, noNodes(n.nodes)[which]));
            place("13 one, no node " + i + ", and no weights", (x, n) -> x.lot(0, noNodes(n.nodes)[which], 10, 0));
            place("13 other, no node " + i + ", and no weights", (x, n) -> x.lot(10, 0, 0, noNodes(n.nodes)[which]));
        }
    }

    private static void attempt() {
        node("14 the first node twice", (x, n) -> x.attempt(0, 0));
        node("14 the last node twice", (x, n) -> x.attempt(n.nodes - 1, n.nodes - 1));
        for (int i = 0; i < 5; i++) {
            int which = i;
            place("14 no node " + i, (x, n) -> x.attempt(noNodes(n.nodes)[which], 0));
            place("14 other, no node " + i, (x, n) -> x.attempt(0, noNodes(n.nodes)[which]));
        }
    }

    private static void define() {
        for (Scene scene : EnumSet.of(Scene.ONE_HEAD, Scene.FAILED)) {
            answers(scene, "15 the first definition", BOTH, (x, n) -> x.define(0, 0));
            answers(scene, "15 the last definition", LASTING, (x, n) -> x.define(5, n.nodes - 1));
            answers(scene, "15 none yet", NONE, (x, n) -> x.define(1, n.nodes - 1));
            answers(scene, "15 none but these", NONE, (x, n) -> x.define(4, n.nodes - 1));
        }
        answers(Scene.FULL, "15 though there are 60 nodes", LASTING, (x, n) -> x.define(0, 59));
        for (int bad : NO_DEFINITIONS) {
            place("15 definition " + bad, (x, n) -> x.define(bad, 0));
        }
        for (int i = 0; i < 5; i++) {
            int which = i;
            place("15 no node " + i, (x, n) -> x.define(5, noNodes(n.nodes)[which]));
        }
    }

    // ---- promises 16 to 20

    private static void head() {
        for (Scene scene : ALL) {
            int due = NONE_BEGUN.contains(scene) ? 0 : 1;
            answers(scene, "16 the least sort", due, (x, n) -> x.head(0, 0, 0, true) ? 1 : 0);
            answers(scene, "16 the greatest sort", due, (x, n) -> x.head(5, 0, 0, false) ? 1 : 0);
        }
        for (int pattern : new int[] {-99, 99, S0, S3, ANY}) {
            answers(Scene.FRESH, "16 a " + pattern, 0, (x, n) -> x.head(0, pattern, 0, true) ? 1 : 0);
            answers(Scene.FRESH, "16 b " + pattern, 0, (x, n) -> x.head(0, 0, pattern, true) ? 1 : 0);
            answers(Scene.ONE_HEAD, "17 a " + pattern, 2, (x, n) -> x.other(0, pattern, 0, true));
            answers(Scene.ONE_HEAD, "17 b " + pattern, 2, (x, n) -> x.other(5, 0, pattern, false));
        }
        for (int bad : NO_SORTS) {
            range("16 sort " + bad, (x, n) -> x.head(bad, 0, 0, true) ? 1 : 0);
            range("17 sort " + bad, (x, n) -> x.other(bad, 0, 0, true));
        }
        for (int bad : NO_PATTERNS) {
            range("16 a " + bad, (x, n) -> x.head(0, bad, 0, true) ? 1 : 0);
            range("16 b " + bad, (x, n) -> x.head(5, 0, bad, true) ? 1 : 0);
            range("17 a " + bad, (x, n) -> x.other(0, bad, 0, true));
            range("17 b " + bad, (x, n) -> x.other(5, 0, bad, true));
        }
    }

    private static void other() {
        answers(Scene.ONE_HEAD, "17 how many heads", 2, (x, n) -> x.other(5, S3, ANY, false));
        answers(Scene.FAILED, "17 also in a failed one", 2, (x, n) -> x.other(0, S3, ANY, false));
        refused(NONE_BEGUN, Due.STATE, "17 none was begun", (x, n) -> x.other(0, 0, 0, true));
        refused(EnumSet.of(Scene.TWO_HEADS, Scene.FULL), Due.STATE, "17 a third head", (x, n) -> x.other(0, 0, 0, true));
        refused(EnumSet.of(Scene.GUARDED), Due.STATE, "17 behind a guard", (x, n) -> x.other(0, 0, 0, true));
        refused(EnumSet.of(Scene.BODIED, Scene.FULL_BODIES), Due.STATE, "17 behind a body", (x, n) -> x.other(0, 0, 0, true));
    }

    private static void guard() {
        for (int condition : CONDITIONS) {
            answers(Scene.ONE_HEAD, "18 condition " + condition, 1, (x, n) -> x.guard(condition, 0, 0) ? 1 : 0);
        }
        for (int term : new int[] {-99, 99, S0, S2}) {
            answers(Scene.ONE_HEAD, "18 a " + term, 1, (x, n) -> x.guard(LESS, term, 0) ? 1 : 0);
            answers(Scene.TWO_HEADS, "18 b " + term, 1, (x, n) -> x.guard(HAS + 5, 0, term) ? 1 : 0);
        }
        for (int bad : NO_CONDITIONS) {
            range("18 condition " + bad, (x, n) -> x.guard(bad, 0, 0) ? 1 : 0);
        }
        // S1 and S3 are of no head, in any scene.
        for (int bad : new int[] {-100, 100, 199, S1, S3, 204, ANY, F, MIN, MAX}) {
            range("18 a " + bad, (x, n) -> x.guard(EQUAL, bad, 0) ? 1 : 0);
            range("18 b " + bad, (x, n) -> x.guard(HAS, 0, bad) ? 1 : 0);
            range("18 a " + bad + " of KNOWN", (x, n) -> x.guard(KNOWN, bad, 0) ? 1 : 0);
            answers(Scene.ONE_HEAD, "18 b " + bad + " of KNOWN", 1, (x, n) -> x.guard(KNOWN, 0, bad) ? 1 : 0);
            refused(EnumSet.of(Scene.FRESH, Scene.MADE, Scene.GUARDED), Due.STATE, "18 b " + bad + " of KNOWN, too late", (x, n) -> x.guard(KNOWN, 0, bad) ? 1 : 0);
        }
        for (int term : new int[] {S0, S2}) {
            refused(NONE_BEGUN, Due.RANGE, "18 none was begun, so no head has " + term, (x, n) -> x.guard(EQUAL, term, 0) ? 1 : 0);
            refused(NONE_BEGUN, Due.RANGE, "19 none was begun, so no head has " + term, (x, n) -> x.body(0, 0, term));
        }
        refused(NONE_BEGUN, Due.STATE, "18 none was begun", (x, n) -> x.guard(EQUAL, 0, 0) ? 1 : 0);
        refused(EnumSet.of(Scene.GUARDED, Scene.FULL), Due.STATE, "18 a second one", (x, n) -> x.guard(EQUAL, 0, 0) ? 1 : 0);
        refused(EnumSet.of(Scene.BODIED, Scene.FULL_BODIES), Due.STATE, "18 behind a body", (x, n) -> x.guard(EQUAL, 0, 0) ? 1 : 0);
    }

    private static void body() {
        for (int sort = NONE; sort <= 5; sort++) {
            int one = sort;
            answers(Scene.ONE_HEAD, "19 sort " + sort, 1, (x, n) -> x.body(one, 0, 0));
            answers(Scene.BODIED, "19 the second, sort " + sort, 2, (x, n) -> x.body(one, 0, 0));
        }
        for (int term : new int[] {-99, 99, S0, S2}) {
            answers(Scene.GUARDED, "19 a " + term, 1, (x, n) -> x.body(NONE, term, 0));
            answers(Scene.FAILED, "19 b " + term, 1, (x, n) -> x.body(5, 0, term));
        }
        for (int bad : new int[] {-2, 6, MIN, MAX}) {
            range("19 sort " + bad, (x, n) -> x.body(bad, 0, 0));
        }
        for (int bad : new int[] {-100, 100, 199, S1, S3, 204, ANY, F, MIN, MAX}) {
            range("19 a " + bad, (x, n) -> x.body(NONE, bad, 0));
            range("19 b " + bad, (x, n) -> x.body(0, 0, bad));
        }
        refused(NONE_BEGUN, Due.STATE, "19 none was begun", (x, n) -> x.body(0, 0, 0));
        refused(EnumSet.of(Scene.FULL_BODIES, Scene.FULL), Due.STATE, "19 a third one", (x, n) -> x.body(0, 0, 0));
    }

    private static void rule() {
        answers(Scene.BODIED, "20 with one body", 1, (x, n) -> x.rule());
        answers(Scene.FULL_BODIES, "20 with two bodies", 1, (x, n) -> x.rule());
        refused(NONE_BEGUN, Due.STATE, "20 none was begun", (x, n) -> x.rule());
        refused(EnumSet.of(Scene.ONE_HEAD, Scene.TWO_HEADS, Scene.GUARDED, Scene.FAILED), Due.STATE, "20 no body", (x, n) -> x.rule());
        refused(EnumSet.of(Scene.FULL), Due.STATE, "20 the ninth", (x, n) -> x.rule());
    }

    // ---- promises 21 to 37

    private static void begin() {
        for (int value : new int[] {-99, 99}) {
            answers(Scene.ONE_HEAD, "21 a " + value, 3, (x, n) -> x.begin(0, value, 0));
            answers(Scene.ONE_HEAD, "21 b " + value, 3, (x, n) -> x.begin(n.nodes - 1, 0, value));
        }
        answers(Scene.ONE_HEAD, "21 the first variable", 3, (x, n) -> x.begin(0, F, F));
        answers(Scene.ONE_HEAD, "21 the last variable", 3, (x, n) -> x.begin(0, F + n.variables - 1, F + n.variables - 1));
        for (int i = 0; i < 5; i++) {
            int which = i;
            place("21 no node " + i, (x, n) -> x.begin(noNodes(n.nodes)[which], 0, 0));
            place("21 no node " + i + ", and no values", (x, n) -> x.begin(noNodes(n.nodes)[which], 100, -100));
        }
        // MAX is FREE and a number, too; the 61st variable is never there.
        for (int i = 0; i < 3; i++) {
            int which = i;
            place("21 a, no variable " + i, (x, n) -> x.begin(0, new int[] {F + n.variables, F + 60, MAX}[which], 0));
            place("21 b, no variable " + i, (x, n) -> x.begin(0, 0, new int[] {F + n.variables, F + 60, MAX}[which]));
            place("21 a, no variable " + i + ", and b no value", (x, n) -> x.begin(0, new int[] {F + n.variables, F + 60, MAX}[which], 100));
            place("21 b, no variable " + i + ", and a no value", (x, n) -> x.begin(0, -100, new int[] {F + n.variables, F + 60, MAX}[which]));
        }
        Tellcourt y = new Tellcourt();
        y.equate(0, 0);
        Due.fails("21 a, no variable at all", Due.PLACE, () -> y.begin(0, F, 0));
        Due.fails("21 b, no variable at all", Due.PLACE, () -> y.begin(0, 0, F));
        Due.holds("21 nothing changed behind it", y.waiting() == 0 && y.begin(0, 0, 0) == 1);
        for (int bad : new int[] {-100, 100, S0, S3, ANY, F - 1, MIN}) {
            refused(WITH_NODES, Due.RANGE, "21 a " + bad, (x, n) -> x.begin(0, bad, 0));
            refused(WITH_NODES, Due.RANGE, "21 b " + bad, (x, n) -> x.begin(0, F, bad));
        }
        refused(EnumSet.of(Scene.FULL), Due.STATE, "21 the 31st", (x, n) -> x.begin(0, 0, 0));
        refused(EnumSet.of(Scene.FAILED), Due.STATE, "21 failed", (x, n) -> x.begin(0, F, 0));
    }

    private static void stepAndSeedAndEnds() {
        refused(EnumSet.of(Scene.FULL), Due.STATE, "22 the 31st", (x, n) -> x.step());
        refused(EnumSet.of(Scene.FAILED), Due.STATE, "22 failed", (x, n) -> x.step());
        refused(EnumSet.of(Scene.FAILED), Due.STATE, "24 failed", (x, n) -> x.ends());
        for (Scene scene : ALL) {
            // From 1 the LOT of the other scenes has brought 149.
            int due = scene == Scene.FRESH || scene == Scene.FULL ? 1 : 149;
            answers(scene, "23 the least", due, (x, n) -> x.seed(0));
            answers(scene, "23 the greatest", due, (x, n) -> x.seed(65536));
            answers(scene, "23 the least is set", 0, (x, n) -> x.seed(0) < 0 ? NONE : x.seed(1));
            answers(scene, "23 the greatest is set", 65536, (x, n) -> x.seed(65536) < 0 ? NONE : x.seed(1));
        }
        for (int bad : new int[] {-1, 65537, MIN, MAX}) {
            range("23 seed " + bad, (x, n) -> x.seed(bad));
        }
    }

    private static void asked() {
        for (int i = 0; i < 5; i++) {
            int which = i;
            place("28 no variable " + i, (x, n) -> x.value(noNodes(n.variables)[which]));
            place("29 no variable " + i, (x, n) -> x.areOne(noNodes(n.variables)[which], 0) ? 1 : 0);
            place("29 other, no variable " + i, (x, n) -> x.areOne(0, noNodes(n.variables)[which]) ? 1 : 0);
            place("36 no rule " + i, (x, n) -> x.fired(noNodes(n.rules)[which]));
        }
        for (int i = 0; i < 5; i++) {
            int which = i;
            place("31 no token " + i, (x, n) -> x.part(noTokens(n.tokens)[which], 0));
            place("31 no token " + i + ", and no part", (x, n) -> x.part(noTokens(n.tokens)[which], 5));
            place("32 no token " + i, (x, n) -> x.isMadeBy(noTokens(n.tokens)[which], 0) ? 1 : 0);
            place("32 other, no token " + i, (x, n) -> x.isMadeBy(0, noTokens(n.tokens)[which]) ? 1 : 0);
        }
        for (int bad : new int[] {-1, 5, MIN, MAX}) {
            refused(WITH_NODES, Due.RANGE, "31 part " + bad, (x, n) -> x.part(0, bad));
            refused(WITH_NODES, Due.RANGE, "31 part " + bad + " of the last one", (x, n) -> x.part(n.tokens - 1, bad));
        }
        answers(Scene.FULL, "28 the last variable", 100, (x, n) -> x.value(59));
        answers(Scene.FULL, "29 the first and the last variable", 0, (x, n) -> x.areOne(0, 59) ? 1 : 0);
        answers(Scene.FULL, "29 the last variable itself", 1, (x, n) -> x.areOne(59, 59) ? 1 : 0);
        answers(Scene.FULL, "31 the first part of the last token", 5, (x, n) -> x.part(99, 0));
        answers(Scene.FULL, "31 the last part of the last token", 1, (x, n) -> x.part(99, 4));
        answers(Scene.FULL, "32 the first and the last token", 0, (x, n) -> x.isMadeBy(99, 0) || x.isMadeBy(0, 99) ? 1 : 0);
        answers(Scene.FULL, "36 the last rule", 0, (x, n) -> x.fired(7));
    }

    private static int[] noTokens(int tokens) {
        return new int[] {-1, tokens, 100, MIN, MAX};
    }
}
