/**
 * The sentences of the document about the store, agents and tries that name a boundary case, in its order, each with
 * a test of its own: the sentence stands ahead of it. Steps, rules and calls follow in StepBoundaryTests; what is
 * refused, and the bounds of each argument, stand in RefusalTests.
 */
public final class BoundaryTests extends Scenes {
    private BoundaryTests() {
    }

    public static void main(String[] args) {
        the512thCall();
        refusedCallsAreNotDoneAnew();
        variablesFromOutside();
        variablesOfHides();
        valuesOfVariables();
        classesOverOthers();
        sameValueIsNoClass();
        tokensOfAgents();
        tokensOfRules();
        sortsAndArguments();
        equalTwiceWakesNothing();
        twoValuesFail();
        failedStaysFailed();
        equal();
        unlike();
        less();
        known();
        has();
        nodesAtMost60();
        slotsOfBegunAgents();
        allHandOnTheFrameAndTheSlice();
        bothTheFirstOneFirst();
        whenByTheLowestThatStands();
        whenWaits();
        eitherByPriority();
        eitherFairly();
        eitherOfItsNodeAlone();
        eitherWaits();
        hideOneSlot();
        hiddenSlotsOfTwoAgents();
        callSlots();
        callKeepsVariables();
        callWithoutANode();
        nextAndEach();
        unlessAndDefaultWait();
        lotLessThanTheWeight();
        lotRemainders();
        lotWeights();
        lotHandsOn();
        chanceAtFirst();
        chanceIsCutDown();
        chanceModulo();
        tryThatHolds();
        tryWithThoseThatWaitInIt();
        tryWithoutThoseThatWaitOutside();
        tryWithinThreeOthers();
        triesBesideOneAnother();
        tryComesBehindTheOutside();
        tryComesBehindWithItsSlices();
        triesWithinTriesForTheNextStep();
        failedTryCountsActs();
        failedTryCountsFirings();
        failedTryKeepsDraws();
        failedTryKeepsSides();
        failedTryKeepsTokenNumbers();
        failedTryKeepsVariableNumbers();
        failedTryForgetsTheRest();
        failedTryKeepsTheFrame();
        failedTryOfAFullStore();
        failedTryForgetsManyFirings();
        failedTryBehindManyFirings();
        Due.end("BoundaryTests");
    }

    // An object is used for at most 512 calls after it has been made.
    private static void the512thCall() {
        Tellcourt x = new Tellcourt();
        int one = told(x, 0, S0, 0), none = x.equate(0, 0), c = x.call(0, 1, 0);
        for (int call = 4; call <= 508; call++) {
            x.define(0, call % 2 == 0 ? one : none);
        }
        x.begin(c, 0, 0);
        Due.is("the 510th call, a step", x.step(), 2);
        Due.is("the 511th call", x.standing(), 1);
        Due.is("the 512th call", x.standingAnew(), 1);
    }

    // A call that throws an exception changes nothing.
    private static void refusedCallsAreNotDoneAnew() {
        Tellcourt x = new Tellcourt();
        int t = told(x, 0, 0, 0), l = x.lot(1, t, 1, x.equate(0, 0));
        Due.fails("a seed too great", Due.RANGE, () -> x.seed(65537));
        Due.fails("no definition", Due.PLACE, () -> x.define(6, t));
        Due.fails("no value", Due.RANGE, () -> x.begin(t, 100, 0));
        Due.fails("no rule", Due.STATE, x::rule);
        for (int i = 0; i < 30; i++) {
            run(x, l, 0, 0);
        }
        x.begin(t, 0, 0);
        Due.fails("the 31st step", Due.STATE, x::step);
        Due.is("done anew", x.standingAnew(), x.standing());
    }

    // ---- the store

    // Variables are numbered from 0, as they are made, at most 60.
    private static void variablesFromOutside() {
        Tellcourt x = new Tellcourt();
        Due.is("no variable yet", x.variables(), 0);
        for (int i = 0; i < 60; i++) {
            Due.is("the variable's number", x.variable(), i);
            Due.is("how many", x.variables(), i + 1);
        }
        Due.fails("the 61st variable", Due.STATE, x::variable);
        Due.holds("the store did not fail by that", !x.hasFailed() && x.variables() == 60);
    }

    // It fails, too, if a variable .. would be one too many.
    private static void variablesOfHides() {
        Tellcourt x = withVariables(58);
        int h = x.hide(3, told(x, 0, S3, 0));
        run(x, h, 0, 0);
        run(x, h, 0, 0);
        Due.holds("59 and 60", x.variables() == 60 && x.part(0, 1) == F + 58 && x.part(1, 1) == F + 59);
        Due.holds("not failed", !x.hasFailed());
        Due.is("the HIDE acts", run(x, h, 0, 0), 1);
        Due.holds("the 61st fails the store", x.hasFailed() && x.variables() == 60 && x.tokens() == 2 && x.clock() == 2);
    }

    // .. and one to have a value, -99 to 99 .. its value; 100 if it has none.
    private static void valuesOfVariables() {
        Tellcourt x = withVariables(4);
        int same = x.equate(S0, S1);
        x.begin(same, F, -99);
        x.begin(same, F + 1, 99);
        x.begin(same, F + 2, 0);
        x.step();
        Due.is("the least value", x.value(0), -99);
        Due.is("the greatest value", x.value(1), 99);
        Due.is("the value 0", x.value(2), 0);
        Due.is("no value", x.value(3), 100);
    }

    // .. all that are equal to one another, over others or not, are a class, which has a value, or none.
    private static void classesOverOthers() {
        Tellcourt x = withVariables(60);
        int same = x.equate(S0, S1);
        for (int i = 0; i < 59; i++) {
            if (i != 30) {
                x.begin(same, F + i + 1, F + i);
            }
            if (x.waiting() == 29) {
                x.step();
            }
        }
        x.step();
        Due.holds("two classes", x.areOne(0, 30) && x.areOne(31, 59) && !x.areOne(0, 59) && !x.areOne(30, 31));
        run(x, same, F + 45, 7);
        Due.holds("the value of one", x.value(31) == 7 && x.value(59) == 7 && x.value(30) == 100);
        run(x, same, F + 59, F);
        Due.holds("one class", x.areOne(0, 59) && x.areOne(30, 31) && x.areOne(1, 58));
        Due.holds("its value", x.value(0) == 7 && x.value(30) == 7 && x.value(59) == 7);
    }

    // Two variables that have the same value are not of one class by that.
    private static void sameValueIsNoClass() {
        Tellcourt x = withVariables(2);
        int same = x.equate(S0, S1);
        x.begin(same, F, 4);
        x.begin(same, F + 1, 4);
        x.step();
        Due.holds("the same value, not one", x.value(0) == x.value(1) && !x.areOne(0, 1) && x.areOne(0, 0));
        run(x, same, F, F + 1);
        Due.holds("told equal, one", x.areOne(0, 1) && !x.hasFailed());
    }

    // Tokens are numbered from 0, as they are told, at most 100 .. It fails, too, if .. a token would be one too many.
    private static void tokensOfAgents() {
        Tellcourt x = new Tellcourt();
        Due.is("none yet", x.tokens(), 0);
        int t = told(x, 5, S0, 0);
        runOften(x, t, 99);
        Due.is("99", x.tokens(), 99);
        Due.is("the hundredth acts", run(x, t, 9, 0), 1);
        Due.holds("the hundredth", !x.hasFailed() && x.tokens() == 100 && x.part(99, 1) == 9 && x.standing() == 100);
        Due.is("the 101st acts", run(x, t, 0, 0), 1);
        Due.holds("the 101st fails the store", x.hasFailed() && x.tokens() == 100 && x.standing() == 100);
        Due.is("done anew", x.standingAnew(), 100);
    }

    private static void tokensOfRules() {
        for (int before = 97; before <= 98; before++) {
            Tellcourt x = new Tellcourt();
            x.head(0, ANY, ANY, true);
            x.body(1, 7, 0);
            x.body(2, 8, 0);
            x.rule();
            runOften(x, told(x, 5, 0, 0), before);
            Due.is("a token and a firing", run(x, told(x, 0, 0, 0), 0, 0), 2);
            Due.is("a hundred", x.tokens(), 100);
            Due.is("it fired", x.fired(0), 1);
            Due.is("the hundredth is of the body", x.part(99, 0), before == 97 ? 2 : 1);
            Due.holds("the 101st fails the store", x.hasFailed() == (before == 98));
        }
    }

    // A token has a sort, 0 to 5, and two arguments, each a value or a variable; it stands, or not any more.
    private static void sortsAndArguments() {
        Tellcourt x = withVariables(60);
        x.begin(x.token(0, -99, S0, true), F + 59, 0);
        x.begin(x.token(5, S0, 99, false), F, 0);
        x.step();
        tokenIs("the least sort and value", x, 0, 0, -99, F + 59, 1, 1);
        tokenIs("the greatest sort and value", x, 1, 5, F, 99, 0, 0);
    }

    // To tell that a and b are equal .. makes one class of two, or gives a class a value.
    private static void equalTwiceWakesNothing() {
        Tellcourt x = withVariables(2);
        int t = told(x, 0, S0, S1), same = x.equate(S0, S1);
        run(x, same, F, 5);
        run(x, t, F, F + 1);
        x.head(0, ANY, ANY, true);
        x.body(1, 0, 0);
        x.rule();
        Due.is("the same value again", run(x, same, F, 5), 1);
        Due.is("from the other side", run(x, same, 5, F), 1);
        Due.is("the same variable", run(x, same, F + 1, F + 1), 1);
        Due.is("the same values", run(x, same, -9, -9), 1);
        Due.is("nothing fired by that", x.fired(0), 0);
        Due.is("one class of two", run(x, same, F + 1, F), 2);
        Due.is("fired", x.fired(0), 1);
        Due.is("one class already", run(x, same, F, F + 1), 1);
        Due.is("the class's value again", run(x, same, F + 1, 5), 1);
        Due.holds("nothing more", x.fired(0) == 1 && !x.hasFailed());
    }

    // If they have two values that are not the same, the store fails.
    private static void twoValuesFail() {
        int[][] pairs = {{4, 5}, {-1, 1}, {-99, 99}, {F, 5}, {5, F}, {F, F + 1}, {F + 2, 5}, {F + 3, F + 1}, {F + 2, F + 3}};
        for (int[] pair : pairs) {
            Tellcourt x = withVariables(5);
            int same = x.equate(S0, S1);
            x.begin(same, F, 4);
            x.begin(same, F + 1, 5);
            x.begin(same, F, F + 2);
            x.begin(same, F + 3, 6);
            x.step();
            String both = pair[0] + " and " + pair[1];
            Due.is("acts of " + both, run(x, same, pair[0], pair[1]), 1);
            Due.holds("two values fail: " + both, x.hasFailed() && x.clock() == 1);
            Due.holds("all as before: " + both, x.value(0) == 4 && x.value(1) == 5 && x.value(3) == 6 && !x.areOne(0, 1) && !x.areOne(2, 3));
        }
    }

    // .. a store that has failed stays so, and nothing is done with it any more.
    private static void failedStaysFailed() {
        Tellcourt x = withVariables(2);
        int t = told(x, 0, S0, 0);
        x.begin(t, F + 1, 0);
        x.begin(failing(x), 0, 0);
        x.begin(t, F, 0);
        Due.is("acts until then", x.step(), 2);
        Due.fails("no variable", Due.STATE, x::variable);
        Due.fails("no agent", Due.STATE, () -> x.begin(t, 0, 0));
        Due.fails("no step", Due.STATE, x::step);
        Due.fails("no ends", Due.STATE, x::ends);
        Due.holds("it stays failed", x.hasFailed() && x.clock() == 0 && x.tokens() == 1 && x.waiting() == 0);
        Due.holds("what is asked", x.value(1) == 100 && x.part(0, 1) == F + 1 && x.standing() == 1 && x.standingAnew() == 1);
        Due.is("nodes can be made", x.next(t), 2);
        Due.is("a definition can be given", x.define(5, t), NONE);
        Due.is("the seed can be set", x.seed(65536), 1);
        x.head(0, S0, ANY, true);
        x.body(NONE, S0, 1);
        Due.is("a rule can be made", x.rule(), 0);
        Due.is("it does not fire", x.fired(0), 0);
    }

    // ---- conditions

    /**
     * Variables: 0 and 1 are one, without a value; 2 and 3 are 5 each; 4 is 6; 5 is alone; 6 is -99, 7 is 99. A token
     * of the sort 3 stands with 0 and 2, one of the sort 4 does not any more.
     */
    private static boolean entails(int condition, int a, int b) {
        Tellcourt x = withVariables(8);
        int same = x.equate(S0, S1);
        int[][] told = {{F, F + 1}, {F + 2, 5}, {F + 3, 5}, {F + 4, 6}, {F + 6, -99}, {F + 7, 99}};
        for (int[] pair : told) {
            x.begin(same, pair[0], pair[1]);
        }
        x.begin(told(x, 3, S0, S1), F, F + 2);
        x.begin(x.token(4, S0, S1, false), F, F + 2);
        x.step();
        return run(x, x.when(condition, S0, S1, x.equate(0, 0)), a, b) == 2;
    }

    private static void entailed(int condition, boolean due, int[][] pairs) {
        for (int[] pair : pairs) {
            String what = "condition " + condition + " of " + pair[0] + " and " + pair[1] + (due ? "" : ", not");
            Due.holds(what, entails(condition, pair[0], pair[1]) == due);
        }
    }

    // EQUAL, if both have the same value, or are of one class.
    private static void equal() {
        entailed(EQUAL, true, new int[][] {{5, 5}, {-99, -99}, {99, 99}, {0, 0}, {F + 2, 5}, {5, F + 3}, {F + 2, F + 3},
            {F, F}, {F, F + 1}, {F + 1, F}, {F + 5, F + 5}, {F + 6, -99}});
        entailed(EQUAL, false, new int[][] {{5, 6}, {-99, 99}, {-1, 1}, {F + 2, 6}, {4, F + 3}, {F + 2, F + 4}, {F, 5},
            {5, F}, {F, 0}, {F, F + 5}, {F + 5, F + 1}, {F, F + 2}, {F + 3, F + 5}});
    }

    // UNLIKE, if both have values that are not the same.
    private static void unlike() {
        entailed(UNLIKE, true, new int[][] {{5, 6}, {-99, 99}, {-1, 1}, {F + 2, 6}, {4, F + 3}, {F + 2, F + 4}, {F + 6, F + 7}});
        entailed(UNLIKE, false, new int[][] {{F + 5, 5}, {5, F + 5}, {F + 1, 6}, {5, 5}, {-99, -99}, {F + 2, 5}, {F + 2, F + 3}, {F, 5}, {5, F}, {F, F + 5},
            {F, F + 1}, {F, F}, {F, F + 2}, {F + 3, F + 5}});
    }

    // LESS, if both have values, and that of a is less.
    private static void less() {
        entailed(LESS, true, new int[][] {{-99, -98}, {98, 99}, {-99, 99}, {-1, 0}, {0, 1}, {F + 2, F + 4}, {F + 6, -98},
            {98, F + 7}, {4, F + 2}, {F + 2, 6}});
        entailed(LESS, false, new int[][] {{F + 5, 99}, {-99, F + 5}, {F + 1, 99}, {-98, -99}, {-99, -99}, {99, 99}, {0, 0}, {6, 5}, {F + 2, F + 3}, {F + 4, F + 2},
            {F + 2, 5}, {5, F + 2}, {F, 99}, {-99, F}, {F, F + 5}, {F, F + 1}, {F + 2, F}});
    }

    // KNOWN, if a has a value.
    private static void known() {
        entailed(KNOWN, true, new int[][] {{-99, F}, {0, F}, {99, 0}, {F + 2, F}, {F + 6, 0}, {F + 7, F + 5}});
        entailed(KNOWN, false, new int[][] {{F, 5}, {F + 1, F + 2}, {F + 5, -99}});
    }

    // HAS a sort, if a token of it stands whose arguments are EQUAL to a and to b.
    private static void has() {
        entailed(HAS + 3, true, new int[][] {{F, F + 2}, {F + 1, F + 2}, {F, 5}, {F + 1, F + 3}});
        entailed(HAS + 3, false, new int[][] {{F + 5, F + 2}, {F, 6}, {F, F}, {F + 2, F}, {5, 5}, {F + 1, F + 4}});
        entailed(HAS + 2, false, new int[][] {{F, F + 2}});
        entailed(HAS + 4, false, new int[][] {{F, F + 2}});
        entailed(HAS, false, new int[][] {{F, F + 2}, {0, 0}});
        entailed(HAS + 5, false, new int[][] {{F, F + 2}, {0, 0}});
    }

    // ---- agents

    // Nodes are numbered from 0, as they are made, at most 60.
    private static void nodesAtMost60() {
        Tellcourt x = new Tellcourt();
        Due.is("the first node", told(x, 0, S0, 0), 0);
        for (int i = 1; i < 59; i++) {
            Due.is("the node's number", x.equate(i, i), i);
        }
        Due.is("the 60th node", told(x, 5, S0, 0), 59);
        Due.fails("the 61st node", Due.STATE, () -> x.equate(0, 0));
        x.begin(59, 1, 0);
        Due.is("the first and the last act", run(x, 0, 2, 0), 2);
        Due.holds("each as it was made", x.part(0, 0) == 5 && x.part(1, 0) == 0);
        // An EITHER that is the 60th node, and the sides that it took.
        Tellcourt y = new Tellcourt();
        int w = y.when(EQUAL, 0, 0, told(y, 1, 0, 0)), v = y.when(EQUAL, 0, 0, told(y, 2, 0, 0));
        for (int i = 4; i < 59; i++) {
            y.equate(0, 0);
        }
        int e = y.either(w, 0, v, 0);
        Due.is("the 60th node is an EITHER", e, 59);
        for (int i = 0; i < 4; i++) {
            run(y, e, 0, 0);
            Due.is("its sides in turn", y.part(i, 0), 1 + i % 2);
        }
    }

    // In the frame of the agents that are begun from outside .. the slots 2 and 3 are the value 0.
    private static void slotsOfBegunAgents() {
        Tellcourt x = withVariables(60);
        int low = told(x, 0, S0, S1), high = told(x, 1, S2, S3);
        x.begin(low, -99, F + 59);
        x.begin(low, F, 99);
        x.begin(high, 7, 8);
        x.step();
        tokenIs("the least value and the last variable", x, 0, 0, -99, F + 59);
        tokenIs("the first variable and the greatest value", x, 1, 0, F, 99);
        tokenIs("the slots 2 and 3", x, 2, 1, 0, 0);
    }

    /** A node of some kind by which the leaf comes, in the step or in the next one, or, the last one, in that alone. */
    private static int bringing(Tellcourt x, int kind, int leaf) {
        int none = x.equate(0, 0), fail = failing(x), late = x.when(HAS + 4, 0, 0, leaf);
        int three = x.attempt(x.attempt(x.attempt(x.attempt(fail, leaf), fail), fail), fail);
        return switch (kind) {
            case 0 -> x.both(leaf, none);
            case 1 -> x.both(none, leaf);
            case 2 -> x.when(EQUAL, 0, 0, leaf);
            case 3 -> late;
            case 4 -> x.either(x.when(EQUAL, 0, 0, leaf), 0, late, 0);
            case 5 -> x.either(x.when(UNLIKE, 0, 0, none), 0, late, 0);
            case 6 -> x.next(leaf);
            case 7 -> x.each(leaf);
            case 8 -> x.unless(false, UNLIKE, 0, 0, leaf);
            case 9 -> x.unless(true, UNLIKE, 0, 0, leaf);
            case 10 -> x.lot(9, leaf, 1, fail);
            case 11 -> x.lot(1, fail, 9, leaf);
            case 12 -> x.attempt(leaf, fail);
            case 13 -> x.attempt(fail, leaf);
            case 14 -> three;
            default -> x.each(late);
        };
    }

    // An agent is a node with a frame .. and with a slice: what brings a node brings it with both, whole.
    private static void allHandOnTheFrameAndTheSlice() {
        for (int kind = 0; kind <= 15; kind++) {
            Tellcourt x = withVariables(2);
            run(x, x.equate(S0, 5), F, 0);
            run(x, told(x, 0, 0, 0), 0, 0);
            int leaf = chain(x, told(x, 1, S0, S1), told(x, 2, S2, S3), x.equate(S0, S1));
            // What some wait for comes at the first rest.
            int four = x.unless(true, UNLIKE, 0, 0, x.token(4, 0, 0, false));
            x.seed(0);
            x.begin(x.when(HAS, 0, 0, x.hide(2, x.hide(3, bringing(x, kind, leaf)))), F, F + 1);
            for (int step = 0; step < 2; step++) {
                if (step == 1 || kind != 15) {
                    x.begin(four, 0, 0);
                }
                x.step();
            }
            int seen = 0;
            for (int i = 0; i < x.tokens(); i++) {
                int sort = x.part(i, 0);
                if (sort == 1 || sort == 2) {
                    tokenIs("its slots, kind " + kind, x, i, sort, sort == 1 ? 5 : F + 2, sort == 1 ? 5 : F + 3, 1, 1);
                    Due.holds("its slice, kind " + kind, x.isMadeBy(i, 0));
                    seen++;
                }
            }
            Due.is("the leaf's tokens, kind " + kind, seen, kind == 7 ? 4 : 2);
            Due.holds("a variable with a value is one still, kind " + kind, x.areOne(0, 1) && !x.hasFailed());
        }
    }

    // BOTH: the two nodes come to the end of the queue, the first one first.
    private static void bothTheFirstOneFirst() {
        Tellcourt x = new Tellcourt();
        int one = told(x, 1, S0, 0), two = told(x, 2, S0, 0);
        x.begin(x.both(two, one), 5, 0);
        Due.is("acts", run(x, one, 6, 0), 4);
        Due.holds("behind what is there", x.part(0, 0) == 1 && x.part(0, 1) == 6);
        Due.holds("the first one first", x.part(1, 0) == 2 && x.part(2, 0) == 1 && x.part(1, 1) == 5);
    }

    // .. the slice .. has besides the token with the lowest number by which it is, and the slice of that.
    private static void whenByTheLowestThatStands() {
        Tellcourt x = new Tellcourt();
        int pass = x.token(0, S0, 0, false), last = told(x, 0, S0, 0), mark = told(x, 1, 0, 0);
        int ask = x.when(HAS, S0, 0, mark);
        x.begin(pass, 1, 0);
        x.step();
        x.begin(last, 2, 0);
        x.begin(x.when(HAS, 2, 0, last), 1, 0);
        x.begin(last, 1, 0);
        x.step();
        // 0 stands no more; 1 is another; 2 and 3 are alike: 2 was told first, and 3 has 1 in its slice.
        Due.is("four tokens", x.tokens(), 4);
        run(x, ask, 1, 0);
        Due.holds("the lowest that stands", x.isMadeBy(4, 2) && !x.isMadeBy(4, 0) && !x.isMadeBy(4, 1) && !x.isMadeBy(4, 3));
        Tellcourt y = new Tellcourt();
        int first = told(y, 0, S0, 0), second = told(y, 1, S0, 0), third = told(y, 2, S0, 0);
        run(y, first, 1, 0);
        run(y, y.when(HAS, 1, 0, second), 1, 0);
        run(y, y.when(HAS + 1, 1, 0, third), 1, 0);
        Due.holds("and the slice of that", y.isMadeBy(2, 1) && y.isMadeBy(2, 0) && y.isMadeBy(1, 0) && !y.isMadeBy(1, 2) && !y.isMadeBy(0, 0));
    }

    // WHEN: if it is entailed, the node comes to the end of the queue; otherwise the agent waits.
    private static void whenWaits() {
        Tellcourt x = withVariables(1);
        int mark = told(x, 0, S1, 0), ask = x.when(KNOWN, S0, 0, mark), bind = x.equate(S0, 0);
        Due.is("it waits, and is dropped", run(x, ask, F, 1), 1);
        Due.is("nothing is left", x.step(), 0);
        x.begin(ask, F, 2);
        Due.is("it waits, and acts again", run(x, bind, F, 0), 4);
        Due.is("it is entailed at once", run(x, ask, F, 3), 2);
        Due.holds("two marks", x.tokens() == 2 && x.part(0, 1) == 2 && x.part(1, 1) == 3);
    }

    /** An EITHER of two sides that tell tokens of the sorts 1 and 2 if their slots are 0. */
    private static int sides(Tellcourt x, int first, int last) {
        int w = x.when(EQUAL, S0, 0, told(x, 1, 0, 0)), v = x.when(EQUAL, S1, 0, told(x, 2, 0, 0));
        return x.either(w, first, v, last);
    }

    // EITHER .. of those that are entailed, that with the greater priority.
    private static void eitherByPriority() {
        int[][] priorities = {{1, 0, 1}, {0, 1, 2}, {9, 8, 1}, {8, 9, 2}, {9, 0, 1}, {0, 9, 2}};
        for (int[] p : priorities) {
            Tellcourt x = new Tellcourt();
            int e = sides(x, p[0], p[1]);
            for (int i = 0; i < 3; i++) {
                Due.is("acts", run(x, e, 0, 0), 2);
                Due.is("the side of " + p[0] + " and " + p[1], x.part(i, 0), p[2]);
            }
            run(x, e, 2 - p[2], p[2] - 1);
            Due.is("the lesser one, if it is entailed alone", x.part(3, 0), 3 - p[2]);
        }
    }

    // .. of the same that side which was taken less often so far .. of the same the first one.
    private static void eitherFairly() {
        for (int priority = 0; priority <= 9; priority += 9) {
            Tellcourt x = new Tellcourt();
            int e = sides(x, priority, priority);
            // The first of none; then by turns; then the second alone three times: the first one is two behind.
            int[][] calls = {{0, 0, 1}, {0, 0, 2}, {0, 0, 1}, {0, 0, 2}, {1, 0, 2}, {1, 0, 2}, {0, 0, 1}, {0, 0, 1},
                {0, 0, 1}, {0, 0, 2}, {0, 1, 1}, {0, 0, 2}, {0, 0, 1}};
            for (int i = 0; i < calls.length; i++) {
                run(x, e, calls[i][0], calls[i][1]);
                Due.is("the side taken at " + i + " with the priority " + priority, x.part(i, 0), calls[i][2]);
            }
        }
    }

    // .. (of this node; each side is counted by itself).
    private static void eitherOfItsNodeAlone() {
        Tellcourt x = new Tellcourt();
        int w = x.when(EQUAL, 0, 0, told(x, 1, 0, 0)), v = x.when(EQUAL, 0, 0, told(x, 2, 0, 0));
        int one = x.either(w, 5, v, 5), other = x.either(w, 5, v, 5), turned = x.either(v, 5, w, 5);
        run(x, w, 0, 0);
        int[][] calls = {{one, 1}, {other, 1}, {turned, 2}, {one, 2}, {turned, 1}, {other, 2}};
        for (int i = 0; i < calls.length; i++) {
            run(x, calls[i][0], 0, 0);
            Due.is("the side taken at " + i, x.part(1 + i, 0), calls[i][1]);
        }
        // The node behind it has its own counts, too.
        int before = x.either(w, 0, v, 9), behind = x.either(w, 5, v, 5);
        Due.is("they are neighbours", behind, before + 1);
        run(x, before, 0, 0);
        run(x, behind, 0, 0);
        run(x, before, 0, 0);
        run(x, behind, 0, 0);
        run(x, before, 0, 0);
        int[] due = {2, 1, 2, 2, 2};
        for (int i = 0; i < due.length; i++) {
            Due.is("the side of one of two neighbours at " + i, x.part(7 + i, 0), due[i]);
        }
        // One WHEN on both sides.
        int twice = x.either(w, 5, w, 5);
        Due.is("acts of one WHEN twice", run(x, twice, 0, 0), 2);
        Due.is("and again", run(x, twice, 0, 0), 2);
    }

    // .. if none is, the agent waits.
    private static void eitherWaits() {
        Tellcourt x = withVariables(1);
        int e = x.either(x.when(EQUAL, S0, 1, told(x, 1, 0, 0)), 9, x.when(EQUAL, S0, 2, told(x, 2, 0, 0)), 0);
        Due.is("it waits, and is dropped", run(x, e, F, 0), 1);
        x.begin(e, F, 0);
        Due.is("the second side can go on", run(x, x.equate(S0, 2), F, 0), 4);
        Due.is("its token", x.part(0, 0), 2);
    }

    // HIDE .. with a frame that is the same but for the slot, which is this variable.
    private static void hideOneSlot() {
        for (int slot = 0; slot < 4; slot++) {
            Tellcourt x = withVariables(1);
            x.define(0, x.hide(slot, x.both(told(x, 0, S0, S1), told(x, 1, S2, S3))));
            Due.is("acts", run(x, x.call(0, S0, S1), 7, 8), 5);
            int[] frame = {7, 8, 0, 0};
            frame[slot] = F + 1;
            tokenIs("the first slots, hidden is " + slot, x, 0, 0, frame[0], frame[1]);
            tokenIs("the last slots, hidden is " + slot, x, 1, 1, frame[2], frame[3]);
            Due.is("it has no value", x.value(1), 100);
        }
    }

    private static void hiddenSlotsOfTwoAgents() {
        for (int slot = 0; slot < 4; slot++) {
            Tellcourt x = withVariables(1);
            int t = told(x, 0, S0 + slot, 0), w = x.when(KNOWN, S0 + slot, 0, t), h = x.hide(slot, x.both(t, w));
            x.begin(h, 7, 8);
            x.begin(h, 7, 8);
            x.begin(x.both(t, x.next(t)), F, F);
            Due.is("acts", x.step(), 11);
            int shown = slot < 2 ? F : 0;
            int[] due = {shown, F + 1, F + 2};
            for (int i = 0; i < 3; i++) {
                Due.is("the slot " + slot + " in the token " + i, x.part(i, 1), due[i]);
            }
            x.step();
            Due.is("the slot " + slot + " in the next step", x.part(3, 1), shown);
        }
    }

    // CALL .. a frame whose slots 0 and 1 are these; the slots 2 and 3 are the value 0.
    private static void callSlots() {
        Tellcourt x = withVariables(1);
        x.define(5, x.both(told(x, 0, S0, S1), told(x, 1, S2, S3)));
        run(x, x.hide(2, x.hide(3, x.call(5, S3, S2))), 7, 8);
        tokenIs("two slots that were hidden", x, 0, 0, F + 2, F + 1);
        tokenIs("the slots 2 and 3", x, 1, 1, 0, 0);
        run(x, x.call(5, -99, 99), 7, 8);
        tokenIs("two values", x, 2, 0, -99, 99);
    }

    // .. whose slots 0 and 1 are these: a variable that has a value is a variable there, too.
    private static void callKeepsVariables() {
        Tellcourt x = withVariables(3);
        int same = x.equate(S0, S1), c = x.call(0, S0, S1);
        x.define(0, same);
        run(x, same, F, 5);
        run(x, c, F, F + 1);
        Due.holds("the first term", x.areOne(0, 1) && x.value(1) == 5);
        run(x, c, F + 2, F + 1);
        Due.holds("the second term", x.areOne(2, 0) && x.value(2) == 5);
        // Its own variable, not another one of the class: this can be seen when they are not one any more.
        Tellcourt y = withVariables(2);
        y.define(0, told(y, 0, S0, S1));
        int all = chain(y, y.equate(S0, S1), y.call(0, S1, S0), y.equate(0, 0), failing(y));
        Due.is("acts", run(y, y.attempt(all, y.equate(0, 0)), F, F + 1), 10);
        tokenIs("told in the TRY", y, 0, 0, F + 1, F, 0, 1);
    }

    // At first none has one; an agent that calls one without a node does nothing.
    private static void callWithoutANode() {
        for (int definition = 0; definition < 6; definition++) {
            Tellcourt x = new Tellcourt();
            int c = x.call(definition, 0, 0);
            Due.is("it acts", run(x, c, 0, 0), 1);
            Due.holds("and does nothing", x.waiting() == 0 && x.tokens() == 0 && !x.hasFailed() && x.clock() == 1);
            int t = told(x, definition, 3, 4);
            x.begin(c, 0, 0);
            Due.is("none before", x.define(definition, t), NONE);
            Due.is("with a node", x.step(), 2);
            tokenIs("its token", x, 0, definition, 3, 4, 1, 1);
        }
    }

    // NEXT: the node is for the next step. EACH: .. and the agent itself is for the next step.
    private static void nextAndEach() {
        Tellcourt x = new Tellcourt();
        int t = told(x, 0, S0, S1), n = x.next(t), e = x.each(t);
        Due.is("a NEXT", run(x, n, 5, 6), 1);
        Due.holds("it is for the next step alone", x.waiting() == 1 && x.tokens() == 0);
        Due.is("its node", x.step(), 1);
        Due.is("none is left", x.waiting(), 0);
        Due.is("an EACH", run(x, e, 7, 8), 2);
        for (int i = 0; i < 3; i++) {
            Due.is("it is for the next step again", x.waiting(), 1);
            Due.is("it acts again", x.step(), 2);
        }
        tokenIs("its frame", x, 4, 0, 7, 8, 1, 1);
    }

    // UNLESS, DEFAULT a condition: the agent waits: what is entailed when they act does not matter.
    private static void unlessAndDefaultWait() {
        for (int d = 0; d < 2; d++) {
            Tellcourt x = new Tellcourt();
            int zero = told(x, 0, 0, 0), one = told(x, 1, 0, 0);
            run(x, zero, 0, 0);
            x.head(0, ANY, ANY, false);
            x.other(1, ANY, ANY, true);
            x.body(NONE, 0, 0);
            x.rule();
            x.begin(x.unless(d == 1, HAS, 0, 0, told(x, 2, 0, 0)), 0, 0);
            Due.is("entailed, and then not", run(x, one, 0, 0), 3 + d);
            Due.is("for the next step", x.waiting(), 1 - d);
            Due.is("assumed", x.tokens(), 2 + d);
            Tellcourt y = new Tellcourt();
            y.begin(y.unless(d == 1, HAS, 0, 0, told(y, 2, 0, 0)), 0, 0);
            Due.is("not entailed, and then it is", run(y, told(y, 0, 0, 0), 0, 0), 2);
            Due.holds("nothing comes of it", y.waiting() == 0 && y.tokens() == 1 && !y.hasFailed());
        }
    }

    // ---- lots

    /** Which node a LOT takes from this seed: 0 or 1. */
    private static int drawn(int seed, int weight, int more) {
        Tellcourt x = new Tellcourt();
        int l = x.lot(weight, told(x, 0, 0, 0), more, told(x, 1, 0, 0));
        x.seed(seed);
        Due.is("acts of a lot", run(x, l, 0, 0), 2);
        return x.part(0, 0);
    }

    // .. if the remainder of x by the sum of the weights is less than the first weight, the first node comes.
    private static void lotLessThanTheWeight() {
        // From 0 x becomes 74; its remainders: by 10 it is 4, by 9 2, by 18 2, by 2 0, by 3 2, by 5 4.
        Due.is("4 is less than 5", drawn(0, 5, 5), 0);
        Due.is("4 is not less than 4", drawn(0, 4, 6), 1);
        Due.is("2 is less than 3", drawn(0, 3, 6), 0);
        Due.is("2 is not less than 2", drawn(0, 2, 7), 1);
        Due.is("2 is less than 9", drawn(0, 9, 9), 0);
        Due.is("0 is less than 1", drawn(0, 1, 1), 0);
        Due.is("2 is not less than 1", drawn(0, 1, 2), 1);
        Due.is("2 is not less than 2 of 3", drawn(0, 2, 1), 1);
        Due.is("the greatest remainder", drawn(0, 4, 1), 1);
        // From 1 it becomes 149: by 18 it is 5.
        Due.is("5 is less than 9", drawn(1, 9, 9), 0);
        // From 45438 it becomes 0.
        Due.is("0 is less than any", drawn(45438, 1, 9), 0);
    }

    // x becomes x times 75, and 74, and of that the remainder by 65537.
    private static void lotRemainders() {
        int[][] seeds = {{0, 74}, {1, 149}, {872, 65474}, {873, 12}, {45438, 0}, {25340, 1}, {65535, 65461}, {65536, 65536}};
        for (int[] seed : seeds) {
            Tellcourt x = new Tellcourt();
            int none = x.equate(0, 0);
            x.begin(x.lot(1, none, 1, none), 0, 0);
            Due.is("x at first", x.seed(seed[0]), 1);
            x.step();
            Due.is("x from " + seed[0], x.seed(0), seed[1]);
        }
        Due.is("65536 is even", drawn(65536, 1, 1), 0);
        Due.is("65536 by 3 is 1", drawn(65536, 1, 2), 1);
        Due.is("and 1 is less than 2", drawn(65536, 2, 1), 0);
    }

    // The weight of the first one, 1 to 9; the weight of the second one, 1 to 9.
    private static void lotWeights() {
        for (int weight = 1; weight <= 9; weight++) {
            for (int more = 1; more <= 9; more++) {
                int due = 74 % (weight + more) < weight ? 0 : 1;
                Due.is("74 by " + weight + " and " + more, drawn(0, weight, more), due);
                due = 65536 % (weight + more) < weight ? 0 : 1;
                Due.is("65536 by " + weight + " and " + more, drawn(65536, weight, more), due);
            }
        }
    }

    // .. the first node comes to the end of the queue, otherwise the second one: with the frame and the slice.
    private static void lotHandsOn() {
        for (int side = 0; side < 2; side++) {
            Tellcourt x = new Tellcourt();
            int t = told(x, 0, S0, S1), mark = told(x, 1, S0, S1);
            int l = side == 0 ? x.lot(9, mark, 1, t) : x.lot(1, t, 9, mark);
            x.seed(0);
            run(x, t, 3, 4);
            x.begin(x.when(HAS, 3, 4, l), 5, 6);
            x.begin(t, 7, 7);
            Due.is("acts", x.step(), 4);
            tokenIs("behind what is there, side " + side, x, 2, 1, 5, 6, 1, 1);
            Due.holds("with the slice", x.isMadeBy(2, 0) && !x.isMadeBy(2, 1));
        }
    }

    private static void chanceIs(String what, Tellcourt x, int above, int below) {
        Due.is(what + ", above", x.chance(true), above);
        Due.is(what + ", below", x.chance(false), below);
    }

    /** Draws a LOT with x set to 0, so that it becomes 74. */
    private static void draw(Tellcourt x, int lot) {
        x.seed(0);
        run(x, lot, 0, 0);
    }

    // The chance of the run, 1 at first, is multiplied by the weight of that one, divided by the sum.
    private static void chanceAtFirst() {
        Tellcourt x = new Tellcourt();
        int none = x.equate(0, 0);
        chanceIs("at first", x, 1, 1);
        run(x, none, 0, 0);
        chanceIs("without a draw", x, 1, 1);
        draw(x, x.lot(9, none, 1, none));
        chanceIs("the first one of 9 to 1", x, 9, 10);
        draw(x, x.lot(1, none, 2, none));
        chanceIs("the second one of 1 to 2: 9 by 10 times 2 by 3", x, 3, 5);
        x.seed(0);
        chanceIs("the seed does not matter for it", x, 3, 5);
    }

    // .. the fraction is cut down.
    private static void chanceIsCutDown() {
        Tellcourt x = new Tellcourt();
        int none = x.equate(0, 0);
        draw(x, x.lot(9, none, 9, none));
        chanceIs("9 by 18", x, 1, 2);
        draw(x, x.lot(4, none, 2, none));
        chanceIs("1 by 2 times 4 by 6", x, 1, 3);
        draw(x, x.lot(6, none, 2, none));
        chanceIs("1 by 3 times 6 by 8", x, 1, 4);
        draw(x, x.lot(8, none, 1, none));
        chanceIs("1 by 4 times 8 by 9", x, 2, 9);
        // 74 by 7 is 4, by 13 it is 9, by 11 it is 8.
        draw(x, x.lot(2, none, 5, none));
        chanceIs("2 by 9 times 5 by 7", x, 10, 63);
        draw(x, x.lot(6, none, 7, none));
        chanceIs("10 by 63 times 7 by 13", x, 10, 117);
        draw(x, x.lot(9, none, 2, none));
        chanceIs("10 by 117 times 9 by 11", x, 10, 143);
    }

    // Returns the number, modulo 1000003.
    private static void chanceModulo() {
        Tellcourt x = new Tellcourt();
        int none = x.equate(0, 0), half = x.lot(1, none, 1, none);
        for (int i = 0; i < 19; i++) {
            draw(x, half);
        }
        chanceIs("2 to the 19th", x, 1, 524288);
        draw(x, half);
        chanceIs("2 to the 20th, less 1000003", x, 1, 48573);
        draw(x, x.lot(8, none, 1, none));
        chanceIs("cut down before it is reduced: 9 times 2 to the 17th, less 1000003", x, 1, 179645);
        Tellcourt y = new Tellcourt();
        int much = y.lot(9, y.equate(0, 0), 1, 0);
        for (int i = 0; i < 6; i++) {
            draw(y, much);
        }
        chanceIs("9 to the 6th, and a million", y, 531441, 1000000);
        draw(y, much);
        chanceIs("9 to the 7th, less 4 times 1000003, and 10 to the 7th, less 9 times that", y, 782957, 999973);
    }

    // ---- tries

    // If that did not fail, the copy takes the place of the store.
    private static void tryThatHolds() {
        Tellcourt x = withVariables(1);
        int in = chain(x, told(x, 0, S0, 0), x.equate(S0, 3), x.hide(2, told(x, 1, S2, 0)), x.next(told(x, 2, S1, 0)));
        Due.is("acts", run(x, x.attempt(in, failing(x)), F, 9), 9);
        Due.holds("what it told", !x.hasFailed() && x.value(0) == 3 && x.variables() == 2 && x.standing() == 2);
        Due.is("for the next step", x.waiting(), 1);
        x.step();
        tokenIs("with its frame", x, 2, 2, 9, 0, 1, 1);
    }

    // .. the first node acts until the rest: those that wait in it go on in it.
    private static void tryWithThoseThatWaitInIt() {
        Tellcourt x = withVariables(2);
        int ask = x.when(KNOWN, S0, 0, told(x, 1, 0, 0)), bind = x.equate(S0, 1), none = x.equate(0, 0);
        Due.is("a WHEN", run(x, x.attempt(x.both(ask, bind), none), F, 0), 6);
        Due.holds("it went on", x.tokens() == 1 && x.value(0) == 1);
        int e = x.either(ask, 0, x.when(KNOWN, S1, 0, told(x, 2, 0, 0)), 9);
        int guess = x.unless(true, KNOWN, 99, 0, none), late = x.unless(true, HAS + 5, 0, 0, bind);
        Due.is("an EITHER, by a DEFAULT", run(x, x.attempt(chain(x, e, guess, late), none), F + 1, F + 1), 9);
        Due.holds("it went on, too", x.tokens() == 2 && x.part(1, 0) == 2 && x.value(1) == 1);
        // What it brings may fail the TRY.
        Tellcourt y = withVariables(1);
        int in = y.both(y.when(KNOWN, S0, 0, failing(y)), y.equate(S0, 1));
        Due.is("one that fails when it goes on", run(y, y.attempt(in, told(y, 0, 0, 0)), F, 0), 7);
        Due.holds("the other one came", !y.hasFailed() && y.tokens() == 1 && y.value(0) == 100);
    }

    // .. in it, with an empty queue: those that wait outside do not go on in it, and are not looked at by its end.
    private static void tryWithoutThoseThatWaitOutside() {
        for (int fails = 0; fails < 2; fails++) {
            Tellcourt x = new Tellcourt();
            int one = told(x, 1, 0, 0), two = told(x, 2, 0, 0), three = told(x, 3, 0, 0), zero = told(x, 0, 0, 0);
            x.begin(x.when(HAS, 0, 0, one), 0, 0);
            x.begin(x.unless(true, HAS + 1, 0, 0, two), 0, 0);
            x.begin(x.unless(false, HAS + 1, 0, 0, three), 0, 0);
            x.begin(three, 0, 0);
            x.begin(x.attempt(fails == 1 ? x.both(zero, failing(x)) : zero, zero), 0, 0);
            x.begin(three, 0, 0);
            Due.is("acts", x.step(), fails == 1 ? 12 : 9);
            int[] held = {3, 0, 3, 1}, failed = {3, 0, 3, 0, 1};
            int[] due = fails == 1 ? failed : held;
            Due.is("tokens", x.tokens(), due.length);
            for (int i = 0; i < due.length; i++) {
                Due.is("the sort of " + i, x.part(i, 0), due[i]);
            }
            Due.is("UNLESS was looked at once, and not by then", x.waiting(), 0);
        }
    }

    // A TRY within three others fails at once.
    private static void tryWithinThreeOthers() {
        Tellcourt x = withVariables(1);
        int good = x.hide(2, told(x, 0, S0, S2)), other = told(x, 1, S0, S1);
        int two = x.attempt(x.attempt(x.attempt(good, other), other), other);
        Due.is("within two others it is tried", run(x, two, 3, 4), 5);
        tokenIs("its token", x, 0, 0, 3, F + 1, 1, 1);
        Due.is("within three others it fails at once", run(x, x.attempt(two, failing(x)), 3, 4), 5);
        tokenIs("the other one of the innermost", x, 1, 1, 3, 4, 1, 1);
        Due.holds("nothing was tried", x.variables() == 2 && x.tokens() == 2);
        // Its other one comes to the end of the queue.
        Tellcourt w = new Tellcourt();
        int never = told(w, 0, 0, 0), first = told(w, 1, S0, S1), last = told(w, 2, S0, S1);
        int four = w.both(w.attempt(never, last), first);
        Due.is("acts of four", run(w, w.attempt(w.attempt(w.attempt(four, never), never), never), 3, 4), 7);
        tokenIs("what was in the queue", w, 0, 1, 3, 4, 1, 1);
        tokenIs("behind it the other one", w, 1, 2, 3, 4, 1, 1);
        // If the other one fails, the TRY around it does so, and its other one comes.
        Tellcourt y = new Tellcourt();
        int fail = failing(y), mark = told(y, 2, 0, 0), nothing = told(y, 0, 0, 0);
        int inner = y.attempt(y.attempt(y.attempt(y.attempt(nothing, fail), mark), fail), fail);
        Due.is("acts", run(y, inner, 0, 0), 6);
        Due.holds("the third one's other", !y.hasFailed() && y.tokens() == 1 && y.part(0, 0) == 2);
    }

    // Only those that it is within count for that, not those beside it.
    private static void triesBesideOneAnother() {
        Tellcourt x = new Tellcourt();
        int good = told(x, 0, 0, 0), bad = told(x, 1, 0, 0), fail = failing(x);
        int holds = x.attempt(good, bad), fails = x.attempt(fail, good);
        int all = chain(x, holds, fails, holds, fails, holds);
        Due.is("five within two others", run(x, x.attempt(x.attempt(all, bad), bad), 0, 0), 18);
        Due.is("all were tried", x.standing(), 5);
        for (int i = 0; i < x.tokens(); i++) {
            Due.is("none failed at once", x.part(i, 0), 0);
        }
        Due.is("and one more in the next step", run(x, x.attempt(x.attempt(holds, bad), bad), 0, 0), 4);
        Due.is("it was tried", x.part(5, 0), 0);
    }

    // .. and what is for the next step comes behind that of the outside.
    private static void tryComesBehindTheOutside() {
        Tellcourt x = new Tellcourt();
        int t = told(x, 0, S0, 0), n = x.next(t);
        x.begin(n, 1, 0);
        x.begin(x.attempt(x.both(n, x.unless(false, UNLIKE, 0, 0, t)), t), 2, 0);
        x.begin(n, 3, 0);
        Due.is("acts", x.step(), 6);
        Due.is("four for the next step", x.waiting(), 4);
        x.step();
        int[] due = {1, 2, 2, 3};
        for (int i = 0; i < 4; i++) {
            Due.is("the order, " + i, x.part(i, 1), due[i]);
        }
    }

    private static void tryComesBehindWithItsSlices() {
        Tellcourt x = new Tellcourt();
        int t = told(x, 0, S0, 0), n = x.next(told(x, 1, S0, 0));
        runOften(x, x.token(5, 0, 0, false), 63);
        for (int i = 1; i <= 3; i++) {
            x.begin(t, i, 0);
        }
        x.step();
        // 63, 64 and 65 are told; an agent with each of them comes for the next step, the second and third in a TRY.
        x.begin(x.when(HAS, 1, 0, n), 1, 0);
        x.begin(x.when(HAS, 2, 0, x.attempt(x.both(n, n), t)), 2, 0);
        x.begin(x.when(HAS, 3, 0, x.attempt(n, t)), 3, 0);
        x.step();
        Due.is("four for the next step", x.waiting(), 4);
        x.step();
        int[] due = {63, 64, 64, 65};
        for (int i = 0; i < 4; i++) {
            for (int token = 0; token < x.tokens(); token++) {
                Due.holds("the slice of " + i + " and " + token, x.isMadeBy(66 + i, token) == (token == due[i]));
            }
        }
    }

    // The same for TRYs within a TRY: what is for the next step is forgotten with it, or comes in its order.
    private static void triesWithinTriesForTheNextStep() {
        for (int depth = 1; depth <= 2; depth++) {
            Tellcourt x = new Tellcourt();
            int t = told(x, 0, 0, 0), fail = failing(x);
            int in = chain(x, x.next(t), x.each(t), x.unless(false, HAS + 1, 0, 0, t)), all = in;
            for (int i = 0; i < depth; i++) {
                all = x.attempt(all, fail);
            }
            run(x, x.attempt(x.both(all, fail), x.equate(0, 0)), 0, 0);
            Due.holds("forgotten with the outer one, at " + depth, x.waiting() == 0 && x.standing() == 0 && !x.hasFailed());
            run(x, x.attempt(x.both(fail, in), t), 0, 0);
            Due.holds("nothing of what did not act", x.waiting() == 0 && x.standing() == 1);
            run(x, x.attempt(all, fail), 0, 0);
            Due.is("three, if all hold", x.waiting(), 3);
        }
        Tellcourt y = new Tellcourt();
        int none = y.equate(0, 0);
        int[] marks = new int[5];
        for (int i = 0; i < 5; i++) {
            marks[i] = y.next(told(y, 0, i, 0));
        }
        int in = chain(y, marks[1], y.attempt(y.both(y.unless(false, HAS + 1, 0, 0, told(y, 0, 7, 0)), marks[2]), none), marks[3]);
        run(y, chain(y, marks[0], y.attempt(in, none), marks[4]), 0, 0);
        Due.is("six", y.waiting(), 6);
        y.step();
        int[] due = {0, 1, 2, 7, 3, 4};
        for (int i = 0; i < 6; i++) {
            Due.is("in their order, " + i, y.part(i, 1), due[i]);
        }
    }

    // ---- a TRY that fails: all of it is forgotten, but for ..

    // .. acts that were done.
    private static void failedTryCountsActs() {
        Tellcourt x = new Tellcourt();
        int t = told(x, 0, 0, 0), fail = failing(x);
        Due.is("the TRY, what failed, the other one", run(x, x.attempt(fail, t), 0, 0), 3);
        Due.is("six in it, and two", run(x, x.attempt(chain(x, t, t, fail), t), 0, 0), 7);
        Due.holds("it did not fail the store", !x.hasFailed() && x.standing() == 2);
    }

    // .. firings that were counted.
    private static void failedTryCountsFirings() {
        Tellcourt x = withVariables(1);
        x.head(0, S0, ANY, true);
        x.guard(KNOWN, S0, 0);
        x.body(1, S0, 0);
        x.rule();
        int bind = x.equate(S0, 3), none = x.equate(0, 0);
        run(x, told(x, 0, S0, 0), F, 0);
        run(x, x.attempt(x.both(bind, failing(x)), none), F, 0);
        Due.is("it is counted", x.fired(0), 1);
        Due.is("what it told stands no more", x.standing(), 1);
        run(x, bind, F, 0);
        Due.is("that it fired for these is forgotten", x.fired(0), 2);
        Due.is("now it stands", x.standing(), 2);
    }

    // .. draws with their chances.
    private static void failedTryKeepsDraws() {
        Tellcourt x = new Tellcourt();
        int none = x.equate(0, 0), l = x.lot(1, none, 2, none);
        x.seed(0);
        run(x, x.attempt(chain(x, l, l, failing(x)), l), 0, 0);
        // 74 by 3 is 2; 74 becomes 5624, by 3 it is 2; 5624 becomes 28652, by 3 it is 2.
        chanceIs("three draws", x, 8, 27);
        Due.is("x of three draws", x.seed(0), 28652);
    }

    // .. what was taken of EITHERs.
    private static void failedTryKeepsSides() {
        Tellcourt x = new Tellcourt();
        int e = sides(x, 0, 0);
        run(x, x.attempt(x.both(e, failing(x)), e), 0, 0);
        Due.is("the second side is due", x.part(x.tokens() - 1, 0), 2);
        run(x, e, 0, 0);
        Due.is("and then the first one", x.part(x.tokens() - 1, 0), 1);
    }

    // .. numbers that were given (tokens that were told there stand no more, but keep their sort, arguments and slice.
    private static void failedTryKeepsTokenNumbers() {
        Tellcourt x = withVariables(1);
        run(x, told(x, 0, 1, 2), 0, 0);
        int t = told(x, 5, S0, -99);
        run(x, x.when(HAS, 1, 2, x.attempt(x.both(t, failing(x)), t)), F, 0);
        tokenIs("told in the TRY", x, 1, 5, F, -99, 0);
        Due.holds("its slice", x.isMadeBy(1, 0) && !x.isMadeBy(1, 1) && !x.isMadeBy(1, 2));
        tokenIs("the other one's", x, 2, 5, F, -99, 1);
        Due.holds("with the slice of the agent", x.isMadeBy(2, 0) && !x.isMadeBy(2, 1));
        // The hundredth is told in a TRY that fails: then there are a hundred.
        for (int other = 0; other < 2; other++) {
            Tellcourt y = new Tellcourt();
            int pass = y.token(5, 0, 0, false), none = y.equate(0, 0);
            runOften(y, pass, 99);
            run(y, y.attempt(y.both(pass, failing(y)), other == 0 ? none : pass), 0, 0);
            Due.is("a hundred", y.tokens(), 100);
            Due.holds("one more fails the store", y.hasFailed() == (other == 1));
            Due.is("none stands", y.standing(), 0);
        }
    }

    // .. variables that were made there have no value).
    private static void failedTryKeepsVariableNumbers() {
        Tellcourt x = withVariables(1);
        int in = x.hide(2, chain(x, x.equate(S2, S0), x.equate(S2, 5), failing(x)));
        run(x, x.attempt(in, x.equate(0, 0)), F, 0);
        Due.holds("without a value", x.variables() == 2 && x.value(1) == 100 && x.value(0) == 100);
        Due.holds("and of no other's class", !x.areOne(0, 1));
        // Two of them, each with a value of its own, or one with the other, in tokens that keep them as arguments.
        for (int one = 0; one < 2; one++) {
            Tellcourt y = withVariables(2);
            int two = chain(y, y.equate(S2, 5), y.equate(S3, one == 1 ? S2 : 6), told(y, 0, S2, S3), failing(y));
            run(y, y.attempt(y.hide(2, y.hide(3, two)), y.equate(0, 0)), F, F + 1);
            Due.holds("none has a value", y.variables() == 4 && y.value(2) == 100 && y.value(3) == 100);
            Due.holds("each alone", !y.areOne(2, 3) && !y.areOne(0, 2) && !y.areOne(1, 3));
            tokenIs("its arguments", y, 0, 0, F + 2, F + 3, 0);
            run(y, y.hide(2, y.both(y.equate(S2, 7), told(y, 1, S2, 0))), 0, 0);
            Due.holds("the next one", y.value(4) == 7 && y.value(3) == 100 && y.part(1, 1) == 7);
        }
        for (int other = 0; other < 2; other++) {
            Tellcourt y = withVariables(59);
            int none = y.equate(0, 0), h = y.hide(0, failing(y));
            run(y, y.attempt(h, other == 0 ? none : h), 0, 0);
            Due.is("sixty", y.variables(), 60);
            Due.is("the 60th has no value", y.value(59), 100);
            Due.holds("one more fails the store", y.hasFailed() == (other == 1));
        }
    }

    // .. otherwise all of it is forgotten .. and the other node comes .. with the frame and the slice of the agent.
    private static void failedTryForgetsTheRest() {
        Tellcourt x = withVariables(3);
        x.head(0, ANY, 7, false);
        x.other(1, ANY, ANY, true);
        x.body(NONE, 0, 0);
        x.rule();
        int t = told(x, 0, S0, 7);
        run(x, t, F, 0);
        int all = chain(x, x.equate(S0, S1), x.equate(S0, 4), x.next(t), x.unless(false, UNLIKE, 0, 0, t), told(x, 1, 0, 0), failing(x));
        run(x, x.attempt(all, told(x, 3, S0, S1)), F, F + 1);
        Due.is("nothing for the next step", x.waiting(), 0);
        Due.holds("no value, no class", x.value(0) == 100 && x.value(1) == 100 && !x.areOne(0, 1));
        Due.holds("what it removed stands", x.part(0, 3) == 1 && x.part(1, 3) == 0 && x.fired(0) == 1);
        tokenIs("the other one, with the agent's frame", x, 2, 3, F, F + 1, 1, 1);
    }

    // .. with the frame .. of the agent: all of its slots.
    private static void failedTryKeepsTheFrame() {
        Tellcourt x = withVariables(1);
        int low = told(x, 0, S0, S1), high = told(x, 1, S2, S3), other = x.both(low, high);
        int changed = x.hide(0, x.hide(1, x.hide(2, x.hide(3, chain(x, low, high, failing(x))))));
        Due.is("acts", run(x, x.hide(2, x.hide(3, x.attempt(changed, other))), F, 8), 15);
        Due.is("the tokens of both", x.tokens(), 4);
        tokenIs("the first slots in it", x, 0, 0, F + 3, F + 4, 0);
        tokenIs("the last slots in it", x, 1, 1, F + 5, F + 6, 0);
        tokenIs("the first slots of the agent", x, 2, 0, F, 8, 1);
        tokenIs("the last slots of the agent", x, 3, 1, F + 1, F + 2, 1);
    }

    // The last variable and the last token are forgotten as well: a TRY of a full store.
    private static void failedTryOfAFullStore() {
        Tellcourt x = withVariables(60);
        x.head(5, ANY, ANY, false);
        x.guard(EQUAL, 1, 1);
        x.body(NONE, 0, 0);
        int same = x.equate(S0, S1), fail = failing(x), h = x.hide(2, same), t = told(x, 0, 0, 0);
        runOften(x, told(x, 1, 0, 0), 99);
        run(x, told(x, 5, S0, S1), F + 59, F + 58);
        x.rule();
        int none = x.equate(0, 0);
        run(x, x.attempt(chain(x, same, fail), none), F + 59, F + 58);
        Due.holds("the last token stands", x.fired(0) == 1 && x.part(99, 3) == 1 && x.standing() == 100);
        Due.is("the last variable has no value", x.value(59), 100);
        for (int i = 0; i < 59; i++) {
            Due.holds("it is alone, not one with " + i, !x.areOne(59, i) && (i == 0 || !x.areOne(0, i)));
        }
        Due.is("a variable too many", run(x, x.attempt(h, none), 1, 2), 3);
        Due.is("a token too many", run(x, x.attempt(t, none), 1, 2), 3);
        Due.holds("they failed their TRYs alone", !x.hasFailed() && x.tokens() == 100 && x.variables() == 60);
        run(x, x.attempt(same, fail), F + 59, -99);
        Due.holds("one that holds", x.value(59) == -99 && x.fired(0) == 2 && x.standing() == 99);
    }

    // .. a rule that removes none does not fire again: of 55 firings at once all are forgotten.
    private static void failedTryForgetsManyFirings() {
        Tellcourt x = withVariables(1);
        int t = told(x, 0, S0, S1), bind = x.equate(S0, 5), none = x.equate(0, 0);
        for (int i = 0; i < 55; i++) {
            x.begin(t, F, i);
            if (i == 29) {
                x.step();
            }
        }
        x.step();
        x.head(0, S0, ANY, true);
        x.body(NONE, S0, S0);
        x.rule();
        Due.is("59 acts, and the other one", run(x, x.attempt(x.both(bind, failing(x)), none), F, 0), 60);
        Due.holds("all fired, and did not fail the store", x.fired(0) == 55 && !x.hasFailed() && x.value(0) == 100);
        Due.is("all fire once more", run(x, bind, F, 0), 56);
        Due.is("they are counted", x.fired(0), 110);
    }

    // The firings of the steps before are not those of the TRY, however many they were.
    private static void failedTryBehindManyFirings() {
        Tellcourt x = withVariables(2);
        x.head(0, S0, ANY, true);
        x.guard(KNOWN, S0, 0);
        x.body(NONE, S0, S0);
        x.rule();
        int t = told(x, 0, S0, S1), bind = x.equate(S0, 5), none = x.equate(0, 0);
        for (int i = 0; i < 3; i++) {
            for (int n = 0; n < 25; n++) {
                x.begin(t, 1, n);
            }
            x.step();
        }
        Due.is("75 firings", x.fired(0), 75);
        run(x, t, F, 0);
        run(x, x.attempt(x.both(bind, failing(x)), none), F, 0);
        Due.is("one more in the TRY", x.fired(0), 76);
        run(x, bind, F, 0);
        Due.is("and again outside", x.fired(0), 77);
        run(x, x.equate(S0, 1), F + 1, 0);
        Due.is("those before are not repeated", x.fired(0), 77);
    }
}
