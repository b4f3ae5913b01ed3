/**
 * The sentences of the document about steps, rules, schedules and what is asked that name a boundary case, in its
 * order, each with a test of its own: the sentence stands ahead of it.
 */
public final class StepBoundaryTests extends Scenes {
    private StepBoundaryTests() {
    }

    public static void main(String[] args) {
        anEmptyStep();
        thirtySteps();
        theQueueInItsOrder();
        nothingIsForTheNextThen();
        thoseThatWaitInTheirOrder();
        theFirstDefaultThatIsNotEntailed();
        oneDefaultAtARest();
        whatGoesOnIsNoRest();
        anAssumptionMustStaySo();
        anAssumptionThatIsEntailedForAWhile();
        aFailureEndsTheStepAtOnce();
        aFailureAtTheEndOfTheStep();
        unlessIsLookedAtFirst();
        unlessKeepsItsOrder();
        thoseThatWaitAreDropped();
        tokensThatDoNotLast();
        sixtyActsOfAgents();
        goingOnIsAnAct();
        aFiringIsAnAct();
        anAssumptionIsNoAct();
        waitingAtTheSixtiethAct();
        unlessAtTheSixtiethAct();
        aTryAtTheSixtiethAct();
        triesWithinOneAnotherAtTheSixtiethAct();
        aTryWithoutAnEnd();
        actsBeginAnewEachStep();
        theEndOfATry();
        aDefaultInATry();
        eightRules();
        rulesNeedABody();
        rulesBegunAnew();
        twoHeadsAreTwoTokens();
        aValueFitsWhatIsEqual();
        aRuleVariableStandsForTheFirst();
        theArgumentThatIsThereFirst();
        rulesByRisingNumbers();
        headsInTheirOrder();
        othersThatStandWhenItIsTheirTurn();
        guardsAreAskedBeforeTheRemoval();
        asLongAsTheActiveTokenStands();
        goesOnWithTheNext();
        withOneHeadItFiresOnce();
        notAgainForTheSame();
        eachRuleOfEachToken();
        theLastRuleAndTheLastTokens();
        eachRuleForgetsInATry();
        allPairsOnce();
        bodiesInTheirOrder();
        slicesOfTheHeads();
        slicesOfLateHeads();
        slicesAtTheEdges();
        slicesOfOneEach();
        slicesOfThoseThatWait();
        tokensOfRulesLastIfAllDo();
        nothingFiresInAFailedStore();
        thoseOfTheClassWake();
        thoseThatStandThenWake();
        rulesMadeLater();
        thirtyAgentsForTheNextStep();
        moreThanThirtyByAStep();
        sixtyForTheNextStep();
        begunBehindThoseThatAre();
        upToEightSchedules();
        eightSchedulesAndOneEnd();
        endsOfNothing();
        endsAreNoStep();
        endsCountEachAsOften();
        endsBySortLastingAndArguments();
        endsOfClasses();
        endsOfNothingElse();
        endsOfManyVariables();
        endsOfManyTokens();
        endsOfTheLastDefinition();
        endsWithinATry();
        thePartsOfAToken();
        howOftenARuleFired();
        standingAndDoneAnew();
        doneAnewFromNothing();
        Due.end("StepBoundaryTests");
    }

    // ---- steps

    // A step begins with a queue of those that are for it .. and the clock, 0 at first, becomes 1 more.
    private static void anEmptyStep() {
        Tellcourt x = new Tellcourt();
        Due.is("the clock at first", x.clock(), 0);
        Due.is("no acts", x.step(), 0);
        Due.holds("one step on", x.clock() == 1 && x.waiting() == 0 && !x.hasFailed() && x.tokens() == 0);
    }

    // Throws IllegalStateException if .. 30 steps were begun.
    private static void thirtySteps() {
        Tellcourt x = new Tellcourt();
        int each = x.each(told(x, 0, 0, 0));
        x.begin(each, 0, 0);
        for (int step = 1; step <= 30; step++) {
            Due.is("acts of the step " + step, x.step(), 2);
            Due.is("the clock", x.clock(), step);
        }
        Due.fails("the 31st", Due.STATE, x::step);
        Due.holds("all as before", x.clock() == 30 && x.tokens() == 30 && x.waiting() == 1 && x.standingAnew() == 30);
        Due.is("one more can be begun", x.begin(each, 0, 0), 2);
        // The 30th may fail.
        Tellcourt y = new Tellcourt();
        for (int step = 1; step < 30; step++) {
            y.step();
        }
        Due.is("the 30th fails", run(y, failing(y), 0, 0), 1);
        Due.holds("and is over", y.hasFailed() && y.clock() == 29);
    }

    // .. in their order .. Always the first of the queue is taken out and acts.
    private static void theQueueInItsOrder() {
        Tellcourt x = new Tellcourt();
        int t = told(x, 0, S0, 0), b = x.both(t, t);
        x.begin(b, 1, 0);
        x.begin(t, 2, 0);
        x.begin(b, 3, 0);
        Due.is("acts", x.step(), 7);
        int[] due = {2, 1, 1, 3, 3};
        for (int i = 0; i < due.length; i++) {
            Due.is("the token " + i, x.part(i, 1), due[i]);
        }
    }

    // .. nothing is for the next step then.
    private static void nothingIsForTheNextThen() {
        Tellcourt x = new Tellcourt();
        int none = x.equate(0, 0);
        x.begin(none, 0, 0);
        Due.is("two", x.begin(x.next(none), 0, 0), 2);
        x.step();
        Due.is("one that came in the step", x.waiting(), 1);
        Due.is("its act", x.step(), 1);
        Due.is("none", x.waiting(), 0);
        Due.is("no act", x.step(), 0);
    }

    // When the queue is empty, those .. that wait and can go on now come .. in the order in which they began to wait.
    private static void thoseThatWaitInTheirOrder() {
        Tellcourt x = withVariables(2);
        int mark = told(x, 0, S1, 0), bind = x.equate(S0, 1);
        int when = x.when(KNOWN, S0, 0, mark), either = x.either(when, 0, when, 0);
        x.begin(either, F, 1);
        x.begin(when, F + 1, 2);
        x.begin(when, F, 3);
        x.begin(x.both(bind, mark), F, 4);
        // Three wait; both, bind and mark; the first and the third go on, and so do their nodes; the second never.
        Due.is("acts", x.step(), 10);
        int[] due = {4, 1, 3};
        Due.is("tokens", x.tokens(), due.length);
        for (int i = 0; i < due.length; i++) {
            Due.is("the token " + i, x.part(i, 1), due[i]);
        }
        // One that goes on brings what lets another one go on, which began to wait before it.
        Tellcourt y = new Tellcourt();
        int last = told(y, 3, 0, 0);
        y.begin(y.when(HAS + 2, 0, 0, last), 0, 0);
        y.begin(y.when(HAS + 1, 0, 0, told(y, 2, 0, 0)), 0, 0);
        y.begin(told(y, 1, 0, 0), 0, 0);
        Due.is("one behind the other", y.step(), 7);
        Due.is("the last", y.part(2, 0), 3);
    }

    // At a rest, of the DEFAULTs that wait, the first one whose condition is not entailed comes into the queue.
    private static void theFirstDefaultThatIsNotEntailed() {
        Tellcourt x = withVariables(2);
        int d = x.unless(true, KNOWN, S0, 0, told(x, 0, S0, S1));
        x.begin(d, 4, 1);
        x.begin(d, F, 2);
        x.begin(d, F + 1, 3);
        // Three wait, and the nodes of two act: that of the entailed one does not.
        Due.is("acts", x.step(), 5);
        Due.holds("the first of them first", x.tokens() == 2 && x.part(0, 2) == 2 && x.part(1, 2) == 3);
        Due.is("none is for the next step", x.waiting(), 0);
        Due.is("all are dropped", x.step(), 0);
    }

    // .. and is assumed; so the step goes on: the second one is looked at, at the next rest.
    private static void oneDefaultAtARest() {
        Tellcourt x = withVariables(1);
        int bind = x.equate(S0, S1), d = x.unless(true, HAS + 1, 0, 0, bind), late = x.unless(true, KNOWN, S0, 0, bind);
        x.begin(x.when(KNOWN, S0, 0, told(x, 0, 0, 0)), F, 0);
        x.begin(d, F, 1);
        x.begin(late, F, 2);
        Due.is("acts", x.step(), 6);
        Due.holds("the second one was not assumed", !x.hasFailed() && x.value(0) == 1 && x.tokens() == 1);
    }

    // .. if there are none, it is a rest: as long as one can go on, none is assumed.
    private static void whatGoesOnIsNoRest() {
        Tellcourt x = withVariables(1);
        int mark = told(x, 1, 0, 0);
        x.begin(x.unless(true, HAS + 1, 0, 0, told(x, 2, 0, 0)), 0, 0);
        x.begin(x.when(KNOWN, S0, 0, mark), F, 0);
        Due.is("acts", run(x, x.equate(S0, 1), F, 0), 5);
        Due.holds("the DEFAULT was not assumed", !x.hasFailed() && x.tokens() == 1 && x.part(0, 0) == 1);
        // The same behind one that was assumed.
        Tellcourt y = withVariables(1);
        y.begin(y.unless(true, HAS + 2, 0, 0, y.equate(S0, 1)), F, 0);
        y.begin(y.unless(true, HAS + 1, 0, 0, told(y, 2, 0, 0)), 0, 0);
        Due.is("acts of three", run(y, y.when(KNOWN, S0, 0, told(y, 1, 0, 0)), F, 0), 6);
        Due.holds("the second one was not assumed", !y.hasFailed() && y.tokens() == 1 && y.part(0, 0) == 1);
    }

    // .. if the condition of one that was assumed is entailed now, the store fails.
    private static void anAssumptionMustStaySo() {
        Tellcourt x = withVariables(2);
        int d = x.unless(true, KNOWN, S0, 0, x.both(x.equate(S1, 1), x.next(x.equate(0, 0))));
        x.begin(d, F, F + 1);
        Due.is("another value", x.step(), 4);
        Due.holds("it holds", !x.hasFailed() && x.clock() == 1);
        Due.is("its own value", run(x, d, F, F), 5);
        Due.holds("it fails", x.hasFailed() && x.clock() == 1 && x.value(0) == 1);
        Due.is("what came for the next step stays for it", x.waiting(), 1);
        // Of two, the first one's condition is entailed by what the second one brings.
        Tellcourt y = withVariables(1);
        y.begin(y.unless(true, KNOWN, S0, 0, y.equate(0, 0)), F, 0);
        y.begin(y.unless(true, HAS, 0, 0, y.equate(S0, 1)), F, 0);
        Due.is("acts of two", y.step(), 4);
        Due.holds("it fails by the other", y.hasFailed());
    }

    // .. is entailed now: not one that was so in between.
    private static void anAssumptionThatIsEntailedForAWhile() {
        Tellcourt x = new Tellcourt();
        x.head(0, ANY, ANY, false);
        x.other(1, ANY, ANY, true);
        x.body(NONE, 0, 0);
        x.rule();
        int zero = told(x, 0, 0, 0), one = told(x, 1, 0, 0);
        x.begin(x.unless(true, HAS, 0, 0, zero), 0, 0);
        x.begin(x.when(HAS, 0, 0, one), 0, 0);
        Due.is("acts, one of them a firing", x.step(), 6);
        Due.holds("it is not entailed any more", !x.hasFailed() && x.clock() == 1 && x.standing() == 1);
    }

    // If the store fails, the step is over at once, the clock stays, and what came for the next step .. stays for it.
    private static void aFailureEndsTheStepAtOnce() {
        Tellcourt x = withVariables(1);
        int t = x.token(0, S0, 0, false), n = x.next(t);
        x.step();
        x.begin(n, 1, 0);
        x.begin(t, 2, 0);
        x.begin(x.unless(false, KNOWN, S0, 0, t), F, 0);
        x.begin(failing(x), 0, 0);
        x.begin(t, 3, 0);
        x.begin(n, 4, 0);
        Due.is("acts", x.step(), 4);
        Due.holds("it is over", x.hasFailed() && x.clock() == 1 && x.tokens() == 1);
        Due.is("UNLESS is not looked at", x.waiting(), 1);
        Due.holds("tokens that do not last stand still", x.standing() == 1 && x.part(0, 3) == 1 && x.standingAnew() == 1);
    }

    private static void aFailureAtTheEndOfTheStep() {
        Tellcourt x = new Tellcourt();
        int t = x.token(0, S0, 0, false);
        x.begin(x.next(t), 1, 0);
        x.begin(x.unless(false, UNLIKE, 0, 0, t), 2, 0);
        x.begin(x.unless(true, HAS, S0, 0, t), 3, 0);
        Due.is("acts", x.step(), 4);
        Due.holds("the assumed one fails it", x.hasFailed() && x.clock() == 0);
        Due.is("UNLESS is not looked at", x.waiting(), 1);
        Due.is("its token stands still", x.standing(), 1);
    }

    // At the end of a step .. UNLESS is looked at, in the order in which they began to wait; then ..
    private static void unlessIsLookedAtFirst() {
        Tellcourt x = new Tellcourt();
        int t = told(x, 1, S0, 0), u = x.unless(false, HAS, S0, 0, t);
        x.begin(u, 1, 0);
        x.begin(u, 2, 0);
        x.begin(x.token(0, 2, 0, false), 0, 0);
        x.begin(u, 3, 0);
        x.begin(x.next(t), 4, 0);
        Due.is("acts", x.step(), 5);
        Due.is("the token that does not last is seen", x.waiting(), 3);
        x.step();
        int[] due = {4, 1, 3};
        for (int i = 0; i < due.length; i++) {
            Due.is("the order, " + i, x.part(1 + i, 1), due[i]);
        }
    }

    // .. in the order in which they began to wait: also if others went on from between them.
    private static void unlessKeepsItsOrder() {
        for (int at = 0; at <= 4; at++) {
            Tellcourt x = withVariables(1);
            int t = told(x, 1, S0, 0), u = x.unless(false, UNLIKE, 0, 0, t);
            int w = x.when(KNOWN, S0, 0, x.equate(0, 0)), never = x.when(UNLIKE, 0, 0, failing(x));
            for (int i = 0; i <= 4; i++) {
                if (i == at) {
                    x.begin(w, F, 0);
                    x.begin(never, 0, 0);
                    x.begin(w, F, 0);
                }
                if (i < 4) {
                    x.begin(u, i, 0);
                }
            }
            Due.is("acts", run(x, x.equate(S0, 1), F, 0), 12);
            Due.is("four", x.waiting(), 4);
            x.step();
            for (int i = 0; i < 4; i++) {
                Due.is("the order, " + i + ", with one that went on at " + at, x.part(i, 1), i);
            }
        }
    }

    // .. then all that wait are dropped.
    private static void thoseThatWaitAreDropped() {
        Tellcourt x = withVariables(1);
        int t = told(x, 0, 0, 0), w = x.when(KNOWN, S0, 0, t);
        x.begin(w, F, 0);
        x.begin(x.either(w, 0, w, 0), F, 0);
        x.begin(x.unless(true, EQUAL, 0, 0, t), F, 0);
        x.begin(x.unless(false, EQUAL, 0, 0, t), F, 0);
        Due.is("four wait", x.step(), 4);
        Due.is("none is for the next step", x.waiting(), 0);
        Due.is("none goes on in it", run(x, x.equate(S0, 1), F, 0), 1);
        Due.is("no token", x.tokens(), 0);
    }

    // .. tokens that do not last stand no more.
    private static void tokensThatDoNotLast() {
        Tellcourt x = new Tellcourt();
        int pass = x.token(0, 0, 0, false), last = told(x, 0, 0, 0), ask = x.when(HAS, 0, 0, x.equate(0, 0));
        x.begin(pass, 0, 0);
        x.begin(ask, 0, 0);
        Due.is("it stands within the step", x.step(), 3);
        Due.is("it stands no more", x.standing(), 0);
        Due.is("it is not found", run(x, ask, 0, 0), 1);
        run(x, last, 0, 0);
        Due.is("one that lasts", x.standing(), 1);
        Due.is("it is found", run(x, ask, 0, 0), 2);
        Due.holds("they keep whether they last", x.part(0, 4) == 0 && x.part(1, 4) == 1 && x.part(0, 3) == 0 && x.part(1, 3) == 1);
    }

    // ---- acts

    /** Begins agents that do as many acts as that and nothing else: 3 by a BOTH and its nodes, or 1. */
    private static void idle(Tellcourt x, int acts) {
        int none = x.equate(0, 0), three = x.both(none, none);
        int left = acts;
        for (; left > 2; left -= 3) {
            x.begin(three, 0, 0);
        }
        for (; left > 0; left--) {
            x.begin(none, 0, 0);
        }
    }

    /** A node whose agent acts behind so many pairs of acts. */
    private static int late(Tellcourt x, int pairs, int node) {
        int none = x.equate(0, 0), all = node;
        for (int i = 0; i < pairs; i++) {
            all = x.both(none, all);
        }
        return all;
    }

    private static void ended(String what, Tellcourt x, boolean fails) {
        Due.is(what + (fails ? ", one too many" : ""), x.step(), 60);
        Due.holds(what + (fails ? " fails" : " does not fail"), x.hasFailed() == fails && x.clock() == (fails ? 0 : 1));
    }

    // A step may do at most 60 acts: each agent that acts is one .. if there would be one more, the store fails.
    private static void sixtyActsOfAgents() {
        Tellcourt w = new Tellcourt();
        idle(w, 59);
        Due.is("59 acts", w.step(), 59);
        for (int more = 0; more < 2; more++) {
            Tellcourt x = new Tellcourt();
            idle(x, 60 + more);
            ended("60 acts of agents", x, more == 1);
        }
    }

    // .. (again when it goes on).
    private static void goingOnIsAnAct() {
        for (int more = 0; more < 2; more++) {
            Tellcourt x = withVariables(1);
            int when = x.when(KNOWN, S0, 0, x.equate(0, 0));
            for (int i = 0; i < 19; i++) {
                x.begin(when, F, 0);
            }
            x.begin(x.equate(S0, 1), F, 0);
            idle(x, 2 + more);
            // 19 wait, go on, and bring a node: 57; the value, and 2 acts or 3 besides.
            ended("60 acts, of them 19 that go on", x, more == 1);
        }
    }

    // .. and each rule that fires.
    private static void aFiringIsAnAct() {
        for (int more = 0; more < 2; more++) {
            Tellcourt x = new Tellcourt();
            x.head(0, ANY, ANY, true);
            x.body(NONE, 0, 0);
            x.rule();
            x.head(0, 29 + 1 - more, ANY, true);
            x.body(1, 0, 0);
            x.rule();
            for (int i = 0; i < 30; i++) {
                x.begin(told(x, 0, i, 0), 0, 0);
            }
            ended("30 tokens and 30 firings", x, more == 1);
            Due.holds("the firing too many is not done", x.fired(0) == 30 && x.fired(1) == 0 && x.tokens() == 30);
        }
        for (int more = 0; more < 2; more++) {
            Tellcourt x = new Tellcourt();
            x.head(0, ANY, ANY, true);
            x.body(NONE, 0, 0);
            x.rule();
            int t = told(x, 0, 0, 0);
            for (int i = 0; i < 27; i++) {
                x.begin(t, 0, 0);
            }
            idle(x, 6 + more);
            ended("27 tokens and 27 firings, and 6 acts", x, more == 1);
        }
    }

    // The DEFAULT that is assumed comes as its node, which acts.
    private static void anAssumptionIsNoAct() {
        for (int more = 0; more < 2; more++) {
            Tellcourt x = new Tellcourt();
            x.begin(x.unless(true, UNLIKE, 0, 0, told(x, 0, 0, 0)), 0, 0);
            idle(x, 58 + more);
            ended("58 acts, a DEFAULT and its node", x, more == 1);
            Due.is("its token", x.tokens(), 1 - more);
        }
    }

    // .. those that wait and can go on come into the queue, and would act; the others are dropped.
    private static void waitingAtTheSixtiethAct() {
        for (int more = 0; more < 2; more++) {
            Tellcourt x = withVariables(1);
            x.begin(x.when(KNOWN, S0, 0, x.equate(0, 0)), F, 0);
            x.begin(x.equate(S0, 1), more == 1 ? F : 1, 0);
            idle(x, 58);
            ended("60 acts, and one that waits", x, more == 1);
        }
    }

    private static void unlessAtTheSixtiethAct() {
        Tellcourt x = new Tellcourt();
        x.begin(x.unless(false, UNLIKE, 0, 0, x.equate(0, 0)), 0, 0);
        idle(x, 59);
        ended("60 acts, an UNLESS among them", x, false);
        Due.is("its node is for the next step", x.waiting(), 1);
    }

    // .. (in a TRY that one fails by that, and the store as soon as another one would act).
    private static void aTryAtTheSixtiethAct() {
        for (int more = 0; more < 2; more++) {
            Tellcourt x = new Tellcourt();
            int in = told(x, 0, 0, 0), other = told(x, 1, 0, 0);
            x.begin(late(x, 29, x.attempt(in, other)), 0, 0);
            idle(x, more);
            ended("58 acts, a TRY and its node", x, more == 1);
            Due.holds("its token", x.tokens() == 1 - more && x.standing() == 1 - more);
        }
        // The TRY itself is one too many.
        Tellcourt y = new Tellcourt();
        y.begin(late(y, 29, y.attempt(told(y, 0, 0, 0), told(y, 1, 0, 0))), 0, 0);
        idle(y, 2);
        ended("60 acts, and a TRY", y, true);
        Due.is("nothing of it", y.tokens(), 0);
        // The TRY fails with the 60th act; its other one is one too many.
        Tellcourt z = new Tellcourt();
        z.begin(late(z, 29, z.attempt(failing(z), told(z, 1, 0, 0))), 0, 0);
        ended("58 acts, a TRY that fails, and its other one", z, true);
        Due.is("the other one does not act", z.tokens(), 0);
    }

    private static void triesWithinOneAnotherAtTheSixtiethAct() {
        for (int more = 0; more < 2; more++) {
            Tellcourt x = new Tellcourt();
            int in = told(x, 0, 0, 0), other = told(x, 1, 0, 0);
            int three = x.attempt(x.attempt(x.attempt(in, other), other), other);
            x.begin(told(x, 2, 0, 0), 0, 0);
            x.begin(late(x, 27, x.both(x.next(in), three)), 0, 0);
            idle(x, more);
            // 1 and 54 acts, the BOTH, the NEXT, three TRYs and the token would be 61.
            ended("three TRYs", x, true);
            Due.holds("what stands outside of them", x.standing() == 1 && x.part(0, 0) == 2);
            Due.is("what came for the next step stays for it", x.waiting(), 1);
        }
        Tellcourt y = new Tellcourt();
        int in = told(y, 0, 0, 0), other = told(y, 1, 0, 0);
        y.begin(late(y, 28, y.attempt(y.attempt(y.attempt(in, other), other), other)), 0, 0);
        ended("56 acts, three TRYs and a token", y, false);
        Due.holds("the token", y.standing() == 1 && y.part(0, 0) == 0);
    }

    private static void aTryWithoutAnEnd() {
        Tellcourt x = new Tellcourt();
        int t = told(x, 0, 0, 0);
        x.define(0, x.both(t, x.call(0, 0, 0)));
        x.begin(t, 0, 0);
        x.begin(x.attempt(x.call(0, 0, 0), t), 0, 0);
        ended("a TRY without an end", x, true);
        // Of 58 acts in it the CALL, BOTH and TOKEN by turns: 19 tokens.
        Due.holds("its tokens keep their numbers, and stand no more", x.tokens() == 20 && x.standing() == 1);
        Tellcourt y = new Tellcourt();
        y.head(0, ANY, ANY, false);
        y.body(0, 0, 0);
        y.rule();
        y.begin(y.attempt(told(y, 0, 0, 0), y.equate(0, 0)), 0, 0);
        ended("a rule without an end in a TRY", y, true);
        Due.holds("58 firings, none of which stands", y.fired(0) == 58 && y.tokens() == 59 && y.standing() == 0);
    }

    // A step may do at most 60 acts: the next one may again.
    private static void actsBeginAnewEachStep() {
        Tellcourt x = new Tellcourt();
        for (int step = 0; step < 3; step++) {
            idle(x, 60);
            Due.is("60 acts", x.step(), 60);
        }
        Due.holds("no failure", !x.hasFailed() && x.clock() == 3 && x.ends() == 1);
        Due.is("no acts", x.step(), 0);
    }

    // ---- the end of a TRY

    // .. UNLESS is looked at, and all that wait in it are dropped; tokens are not, and the clock stays.
    private static void theEndOfATry() {
        Tellcourt x = withVariables(1);
        int t = told(x, 0, 0, 0), pass = x.token(1, 0, 0, false);
        int in = chain(x, x.unless(false, HAS + 1, 0, 0, t), x.unless(false, HAS + 2, 0, 0, t), x.when(KNOWN, S0, 0, t), pass);
        x.begin(x.attempt(in, t), F, 0);
        x.begin(x.when(HAS + 1, 0, 0, x.equate(S0, 1)), F, 0);
        // The TRY with 3 BOTHs and 4 nodes; the WHEN waits no time, and gives the value that the one in it waited for.
        Due.is("acts", x.step(), 10);
        Due.holds("one UNLESS, no other", x.waiting() == 1 && x.value(0) == 1 && x.clock() == 1);
        Due.holds("the token passed at the end of the step", x.tokens() == 1 && x.standing() == 0);
    }

    // .. its end (of which it fails if the condition of one of its DEFAULTs that was assumed is entailed).
    private static void aDefaultInATry() {
        Tellcourt x = withVariables(1);
        int other = told(x, 1, 0, 0), bind = x.equate(S0, 1);
        int breaks = x.unless(true, KNOWN, S0, 0, x.both(bind, x.next(bind))), keeps = x.unless(true, KNOWN, S0, 0, x.next(bind));
        Due.is("one that breaks its condition", run(x, x.attempt(breaks, other), F, 0), 6);
        Due.holds("its TRY fails", !x.hasFailed() && x.tokens() == 1 && x.value(0) == 100 && x.waiting() == 0);
        x.begin(x.attempt(keeps, other), F, 0);
        Due.is("one that keeps it", run(x, bind, F, 0), 4);
        // Its condition is entailed by the end of the step, but was not at the end of the TRY.
        Due.holds("its TRY holds", !x.hasFailed() && x.tokens() == 1 && x.value(0) == 1 && x.waiting() == 1);
    }

    // ---- rules

    // Rules are numbered from 0, at most 8.
    private static void eightRules() {
        Tellcourt x = new Tellcourt();
        Due.fails("no rule yet", Due.PLACE, () -> x.fired(0));
        for (int i = 0; i < 8; i++) {
            int rule = i;
            Due.fails("not made yet", Due.PLACE, () -> x.fired(rule));
            x.head(0, ANY, ANY, true);
            x.body(1, i, 0);
            Due.is("the rule's number", x.rule(), i);
            Due.is("it did not fire", x.fired(i), 0);
        }
        Due.holds("a ninth is begun", !x.head(0, ANY, ANY, true));
        x.body(1, 8, 0);
        Due.fails("a ninth is not made", Due.STATE, x::rule);
        Due.fails("there is none", Due.PLACE, () -> x.fired(8));
        Due.is("eight fire", run(x, told(x, 0, 0, 0), 0, 0), 9);
        Due.holds("by rising numbers", x.tokens() == 9 && x.part(1, 1) == 0 && x.part(8, 1) == 7);
    }

    // .. and one or two bodies.
    private static void rulesNeedABody() {
        Tellcourt x = new Tellcourt();
        Due.fails("none was begun", Due.STATE, x::rule);
        x.head(0, ANY, ANY, false);
        Due.fails("no body", Due.STATE, x::rule);
        Due.is("one body", x.body(1, 1, 1), 1);
        Due.is("it is made", x.rule(), 0);
        Due.fails("it is begun no more", Due.STATE, x::rule);
        x.head(1, ANY, ANY, false);
        x.body(2, 2, 2);
        Due.is("two bodies", x.body(3, 3, 3), 2);
        Due.fails("a third one", Due.STATE, () -> x.body(4, 4, 4));
        Due.is("it is made, too", x.rule(), 1);
        Due.is("acts", run(x, told(x, 0, 0, 0), 0, 0), 3);
        Due.holds("what was told", x.tokens() == 4 && x.part(2, 0) == 2 && x.part(3, 0) == 3 && x.standing() == 2);
    }

    // head: Begins a rule .. in place of one that was begun and not made: nothing of that one is left.
    private static void rulesBegunAnew() {
        Tellcourt x = new Tellcourt();
        x.head(0, S0, S1, false);
        x.other(1, S2, S3, false);
        x.guard(UNLIKE, 1, 1);
        x.body(4, S3, S3);
        x.body(4, S3, S3);
        Due.holds("one was begun", x.head(2, 7, S3, true));
        Due.fails("no body", Due.STATE, x::rule);
        Due.fails("a rule variable of before in a guard", Due.RANGE, () -> x.guard(KNOWN, S0, 0) ? 1 : 0);
        Due.fails("a rule variable of before in a body", Due.RANGE, () -> x.body(4, S2, 0));
        Due.is("a body", x.body(3, S3, 0), 1);
        Due.is("the rule", x.rule(), 0);
        Due.is("without the guard, the second head and the bodies", run(x, told(x, 2, 7, 5), 0, 0), 2);
        Due.holds("its token", x.tokens() == 2 && x.part(1, 0) == 3 && x.part(1, 1) == 5 && x.standing() == 2);
        x.head(0, S0, ANY, true);
        x.guard(UNLIKE, 1, 1);
        x.head(0, S0, ANY, true);
        Due.is("a second head", x.other(1, ANY, ANY, true), 2);
        Due.holds("a guard", x.guard(EQUAL, 1, 1));
        Due.is("a first body", x.body(5, 0, 0), 1);
        Due.is("a second one", x.body(5, 0, 0), 2);
        Due.is("the second rule", x.rule(), 1);
        Due.holds("none is begun", !x.head(0, 0, 0, true));
    }

    // Tokens match heads, two of them being two.
    private static void twoHeadsAreTwoTokens() {
        Tellcourt x = new Tellcourt();
        x.head(0, S0, ANY, true);
        x.other(0, S0, ANY, true);
        x.body(1, 0, 0);
        x.rule();
        int t = told(x, 0, 5, 0);
        Due.is("one token is not two", run(x, t, 0, 0), 1);
        Due.is("two are, either way", run(x, t, 0, 0), 3);
        Due.is("fired", x.fired(0), 2);
    }

    // .. a value, if it is EQUAL to it.
    private static void aValueFitsWhatIsEqual() {
        for (int value : new int[] {-99, 0, 99}) {
            Tellcourt x = withVariables(2);
            x.head(0, value, ANY, true);
            x.body(1, 0, 0);
            x.rule();
            x.head(0, ANY, value, true);
            x.body(2, 0, 0);
            x.rule();
            int t = told(x, 0, S0, S1);
            run(x, x.equate(S0, value), F, 0);
            run(x, t, value, 1);
            Due.holds("the first argument", x.fired(0) == 1 && x.fired(1) == 0);
            run(x, t, 1, value);
            Due.holds("the second one", x.fired(0) == 1 && x.fired(1) == 1);
            run(x, t, F, F + 1);
            Due.holds("a variable that has it", x.fired(0) == 2 && x.fired(1) == 1);
            run(x, t, F + 1, F + 1);
            Due.holds("one without a value", x.fired(0) == 2 && x.fired(1) == 1);
            run(x, t, value == 99 ? 98 : value + 1, value == -99 ? -98 : value - 1);
            Due.holds("its neighbours", x.fired(0) == 2 && x.fired(1) == 1);
        }
    }

    // .. a rule variable, if it is there for the first time, or is EQUAL to what that stands for.
    private static void aRuleVariableStandsForTheFirst() {
        Tellcourt x = withVariables(4);
        x.head(0, S3, S3, true);
        x.body(1, S3, 0);
        x.rule();
        int t = told(x, 0, S0, S1), same = x.equate(S0, S1);
        x.begin(same, F + 1, 5);
        x.begin(same, F + 2, 5);
        x.begin(same, F, F + 3);
        x.step();
        int[][] pairs = {{5, 5}, {-99, -99}, {F, F}, {F, F + 3}, {F + 1, F + 2}, {F + 1, 5}, {5, F + 2}};
        for (int i = 0; i < pairs.length; i++) {
            Due.is("they are EQUAL: " + i, run(x, t, pairs[i][0], pairs[i][1]), 2);
        }
        for (int[] pair : new int[][] {{5, 6}, {F, 5}, {F, F + 1}, {F + 2, 4}, {-1, 1}}) {
            Due.is("they are not: " + pair[0] + " and " + pair[1], run(x, t, pair[0], pair[1]), 1);
        }
    }

    // (the argument there first, heads in their order): the first head's, whichever of the two tokens is active.
    private static void theArgumentThatIsThereFirst() {
        for (int order = 0; order < 2; order++) {
            Tellcourt x = withVariables(3);
            x.head(0, S1, S0, true);
            x.other(1, S0, ANY, true);
            x.body(NONE, S0, S1);
            x.rule();
            int zero = told(x, 0, S0, S1), one = told(x, 1, S0, 0), bind = x.equate(S0, 5);
            x.begin(bind, F, 0);
            x.begin(bind, F + 1, 0);
            x.step();
            for (int i = 0; i < 2; i++) {
                x.begin(i == order ? zero : one, i == order ? F + 2 : F + 1, F);
            }
            x.step();
            Due.holds("it is that of the first head", x.fired(0) == 1 && x.areOne(2, 0) && !x.areOne(2, 1));
        }
        Tellcourt y = withVariables(3);
        y.head(0, S0, S0, true);
        y.other(1, S1, ANY, true);
        y.body(NONE, S0, S1);
        y.rule();
        int bind = y.equate(S0, 5);
        y.begin(bind, F, 0);
        y.begin(bind, F + 1, 0);
        y.begin(told(y, 1, S0, 0), F + 2, 0);
        run(y, told(y, 0, S0, S1), F, F + 1);
        Due.holds("it is that of the first place", y.fired(0) == 1 && y.areOne(2, 0) && !y.areOne(2, 1));
    }

    // When a token is told it is active: for each rule, by rising numbers.
    private static void rulesByRisingNumbers() {
        Tellcourt x = new Tellcourt();
        for (int i = 0; i < 3; i++) {
            x.head(0, ANY, ANY, i != 1);
            x.body(1, i, 0);
            x.rule();
        }
        Due.is("the second one removes it", run(x, told(x, 0, 0, 0), 0, 0), 3);
        Due.holds("the third does not fire", x.fired(0) == 1 && x.fired(1) == 1 && x.fired(2) == 0);
        Due.holds("in their order", x.part(1, 1) == 0 && x.part(2, 1) == 1 && x.standing() == 2);
    }

    // .. for each head, the first one first .. and each other token .. by rising numbers, as the other head.
    private static void headsInTheirOrder() {
        Tellcourt x = new Tellcourt();
        x.head(0, S0, ANY, true);
        x.other(0, S1, ANY, true);
        x.body(1, S0, S1);
        x.rule();
        int t = told(x, 0, S0, 0);
        x.begin(t, 1, 0);
        x.begin(t, 2, 0);
        Due.is("two, and both ways", x.step(), 4);
        Due.is("a third, and four ways", run(x, t, 3, 0), 5);
        int[][] due = {{2, 1}, {1, 2}, {3, 1}, {3, 2}, {1, 3}, {2, 3}};
        int at = 0;
        for (int i = 0; i < x.tokens(); i++) {
            if (x.part(i, 0) == 1) {
                tokenIs("pair " + at, x, i, 1, due[at][0], due[at][1]);
                at++;
            }
        }
        Due.is("six pairs", at, 6);
    }

    // .. each other token that stands when it is its turn.
    private static void othersThatStandWhenItIsTheirTurn() {
        // The first firing tells one more partner, and only then what its guard asks for: it has its turn, too. The
        // one that the second firing tells is removed by the first rule as soon as it is told.
        Tellcourt x = new Tellcourt();
        x.head(1, 7, ANY, false);
        x.other(1, 7, ANY, true);
        x.body(NONE, 0, 0);
        x.rule();
        x.head(0, ANY, ANY, true);
        x.other(1, S0, ANY, true);
        x.guard(HAS + 3, S0, 0);
        x.body(1, 7, 0);
        x.body(3, 7, 0);
        x.rule();
        x.begin(told(x, 1, 1, 0), 0, 0);
        x.begin(told(x, 3, 1, 0), 0, 0);
        x.step();
        Due.is("acts", run(x, told(x, 0, 0, 0), 0, 0), 4);
        Due.holds("one told in between is met", x.fired(1) == 2 && x.fired(0) == 1 && x.tokens() == 7 && x.part(5, 3) == 0);
        // The first firing removes the partner that would be next.
        Tellcourt y = new Tellcourt();
        y.head(1, 5, ANY, false);
        y.other(2, ANY, ANY, true);
        y.body(NONE, 0, 0);
        y.rule();
        y.head(0, ANY, ANY, true);
        y.other(1, S0, ANY, true);
        y.body(2, S0, 0);
        y.rule();
        int two = told(y, 1, S0, 0);
        y.begin(two, 1, 0);
        y.begin(two, 5, 0);
        y.begin(two, 6, 0);
        y.step();
        Due.is("acts of the other", run(y, told(y, 0, 0, 0), 0, 0), 4);
        Due.holds("one removed in between is passed over", y.fired(1) == 2 && y.fired(0) == 1 && y.part(1, 3) == 0);
    }

    // .. if they match, and the guard is entailed, the rule fires: what it removes stands when the guard is asked.
    private static void guardsAreAskedBeforeTheRemoval() {
        Tellcourt x = new Tellcourt();
        x.head(0, S0, S1, false);
        x.guard(HAS, S0, S1);
        x.body(2, S0, S1);
        x.rule();
        Due.is("its own head", run(x, told(x, 0, 3, 4), 0, 0), 2);
        tokenIs("its body", x, 1, 2, 3, 4, 1, 1);
        Tellcourt y = new Tellcourt();
        y.head(0, S0, ANY, true);
        y.other(1, S0, S1, false);
        y.guard(HAS + 1, S0, S1);
        y.body(2, S0, S1);
        y.rule();
        run(y, told(y, 1, 3, 4), 0, 0);
        Due.is("its second head", run(y, told(y, 0, 3, 0), 0, 0), 2);
        Due.holds("it is removed", y.part(0, 3) == 0 && y.standing() == 2);
    }

    // .. as long as the active token stands.
    private static void asLongAsTheActiveTokenStands() {
        Tellcourt x = new Tellcourt();
        x.head(0, ANY, ANY, false);
        x.other(1, S0, ANY, true);
        x.body(2, S0, 0);
        x.rule();
        int one = told(x, 1, S0, 0);
        x.begin(one, 1, 0);
        x.begin(one, 2, 0);
        x.step();
        Due.is("it fires with the first one alone", run(x, told(x, 0, 0, 0), 0, 0), 2);
        Due.holds("the token of that", x.part(3, 1) == 1 && x.tokens() == 4 && x.standing() == 3);
        // It may be removed by what its own firing brings.
        Tellcourt y = new Tellcourt();
        y.head(2, ANY, ANY, true);
        y.other(0, ANY, ANY, false);
        y.body(NONE, 0, 0);
        y.rule();
        y.head(0, ANY, ANY, true);
        y.other(1, S0, ANY, true);
        y.body(2, S0, 0);
        y.rule();
        int two = told(y, 1, S0, 0);
        y.begin(two, 1, 0);
        y.begin(two, 2, 0);
        y.step();
        Due.is("acts", run(y, told(y, 0, 0, 0), 0, 0), 3);
        Due.holds("it fired once", y.fired(1) == 1 && y.fired(0) == 1 && y.part(2, 3) == 0);
    }

    // (After each firing it goes on with the next other token): not with one that was passed, nor an earlier head or rule.
    private static void goesOnWithTheNext() {
        Tellcourt x = new Tellcourt();
        x.head(0, ANY, ANY, true);
        x.guard(HAS + 3, 9, 0);
        x.body(4, 0, 0);
        x.rule();
        x.head(0, ANY, ANY, true);
        x.other(1, S0, ANY, true);
        x.guard(HAS + 3, S0, 0);
        x.body(3, 1, 0);
        x.body(3, 9, 0);
        x.rule();
        int one = told(x, 1, S0, 0);
        x.begin(one, 1, 0);
        x.begin(one, 2, 0);
        x.begin(told(x, 3, 2, 0), 0, 0);
        x.step();
        Due.is("acts", run(x, told(x, 0, 0, 0), 0, 0), 2);
        Due.holds("the first partner and the first rule were passed", x.fired(0) == 0 && x.fired(1) == 1 && x.tokens() == 6);
        Tellcourt y = new Tellcourt();
        y.head(0, S0, ANY, true);
        y.other(0, S1, ANY, true);
        y.guard(HAS + 3, S0, 0);
        y.body(3, S1, 0);
        y.rule();
        int zero = told(y, 0, S0, 0);
        y.begin(zero, 1, 0);
        y.begin(told(y, 3, 1, 0), 0, 0);
        y.step();
        Due.is("as the second head", run(y, zero, 2, 0), 2);
        Due.holds("the first head was passed", y.fired(0) == 1 && y.tokens() == 4 && y.part(3, 1) == 2);
    }

    // (After each firing it goes on with the next other token; with one head it fires once.)
    private static void withOneHeadItFiresOnce() {
        for (int kept = 0; kept < 2; kept++) {
            Tellcourt x = withVariables(1);
            x.head(0, ANY, ANY, kept == 1);
            x.body(1, 0, 0);
            x.rule();
            Due.is("once", run(x, told(x, 0, S0, 0), F, 0), 2);
            Due.is("not again when it wakes", run(x, x.equate(S0, 1), F, 0), 1);
            Due.holds("one token stands, or two", x.fired(0) == 1 && x.standing() == 1 + kept);
        }
    }

    // .. a rule that removes none does not fire again for the same tokens as the same heads.
    private static void notAgainForTheSame() {
        Tellcourt x = withVariables(3);
        x.head(0, ANY, ANY, true);
        x.other(0, ANY, ANY, true);
        x.body(NONE, 0, 0);
        x.rule();
        int t = told(x, 0, S0, 0), same = x.equate(S0, S1);
        x.begin(t, F, 0);
        x.begin(t, F + 1, 0);
        Due.is("as the same heads, and as the others", x.step(), 4);
        Due.is("a class of both wakes them", run(x, same, F, F + 1), 1);
        Due.is("a value wakes them", run(x, same, F, 3), 1);
        Due.is("not again", x.fired(0), 2);
        Due.is("with a third one", run(x, t, F + 2, 0), 5);
        // One that removes one of them does fire again: its tokens are others.
        Tellcourt y = new Tellcourt();
        y.head(0, ANY, ANY, true);
        y.other(1, ANY, ANY, false);
        y.body(NONE, 0, 0);
        y.rule();
        int zero = told(y, 0, 0, 0), one = told(y, 1, 0, 0);
        y.begin(zero, 0, 0);
        y.begin(one, 0, 0);
        y.begin(one, 0, 0);
        Due.is("for each that it removes", y.step(), 5);
        Due.is("one stands", y.standing(), 1);
    }

    // .. for the same tokens: each of a hundred is another one for each of eight rules.
    private static void eachRuleOfEachToken() {
        Tellcourt x = new Tellcourt();
        for (int i = 0; i < 8; i++) {
            x.head(0, S0, ANY, true);
            x.body(NONE, S0, S0);
            x.rule();
        }
        int t = told(x, 0, S0, 0);
        for (int i = 0; i < 99; i++) {
            x.begin(t, i, 0);
            if (x.waiting() == 6 || i == 98) {
                Due.is("acts of each and its eight firings", x.waiting() * 9, x.step());
            }
        }
        for (int i = 0; i < 8; i++) {
            Due.is("the firings of the rule " + i, x.fired(i), 99);
        }
    }

    // The same for the last rule and the last tokens, and for a TRY that forgets it.
    private static void theLastRuleAndTheLastTokens() {
        Tellcourt x = withVariables(2);
        for (int i = 0; i < 8; i++) {
            x.head(i == 7 ? 0 : 4, S0, ANY, true);
            x.other(i == 7 ? 1 : 4, S0, ANY, true);
            x.guard(KNOWN, S0, 0);
            x.body(NONE, S0, S0);
            x.rule();
        }
        runOften(x, x.token(5, 0, 0, false), 98);
        x.begin(told(x, 0, S0, 0), F, 0);
        x.begin(told(x, 1, S0, 0), F, 0);
        x.step();
        Due.holds("they are 98 and 99", x.tokens() == 100 && x.fired(7) == 0);
        int bind = x.equate(S0, 3), none = x.equate(0, 0);
        run(x, x.attempt(x.both(bind, failing(x)), none), F, 0);
        Due.is("fired in a TRY that fails", x.fired(7), 1);
        run(x, bind, F + 1, 0);
        Due.is("and again", run(x, bind, F, 0), 2);
        Due.is("both wake", run(x, x.equate(S0, S1), F, F + 1), 1);
        Due.holds("and not a third time", x.fired(7) == 2 && x.fired(6) == 0 && !x.hasFailed());
    }

    /** Two rules that fire for tokens of the sorts 0 and 1 with the same first argument that is known, behind others. */
    private static void pairing(Tellcourt x, int behind) {
        for (int i = 0; i < behind + 2; i++) {
            int sort = i < behind ? 4 : 0;
            x.head(sort, S0, ANY, true);
            x.other(i < behind ? 4 : 1, S0, ANY, true);
            x.guard(KNOWN, S0, 0);
            x.body(NONE, S0, S0);
            x.rule();
        }
    }

    private static void eachRuleForgetsInATry() {
        for (int behind = 0; behind <= 6; behind++) {
            for (int before = 0; before <= 98; before += 49) {
                Tellcourt x = withVariables(1);
                pairing(x, behind);
                int t = x.token(5, 0, 0, false), zero = told(x, 0, S0, 0), one = told(x, 1, S0, 0);
                int bind = x.equate(S0, 3), none = x.equate(0, 0);
                runOften(x, t, before);
                x.begin(behind % 2 == 0 ? zero : one, F, 0);
                x.begin(behind % 2 == 0 ? one : zero, F, 0);
                x.step();
                run(x, x.attempt(x.both(bind, failing(x)), none), F, 0);
                Due.is("both fire in a TRY that fails", x.fired(behind) + x.fired(behind + 1), 2);
                Due.is("and again", run(x, bind, F, 0), 3);
                Due.holds("each twice", x.fired(behind) == 2 && x.fired(behind + 1) == 2);
            }
        }
    }

    // Each pair of tokens is another one, for each rule.
    private static void allPairsOnce() {
        Tellcourt x = withVariables(1);
        pairing(x, 0);
        int pass = x.token(5, 0, 0, false), zero = told(x, 0, S0, 0), one = told(x, 1, S0, 0), same = x.equate(S0, S1);
        run(x, same, F, 3);
        int made = 0;
        int[] from = {0, 61, 93}, to = {5, 70, 100};
        for (int part = 0; part < 3; part++) {
            runOften(x, pass, from[part] - x.tokens());
            for (int i = from[part]; i < to[part]; i++) {
                x.begin(made % 2 == 0 ? zero : one, F, 0);
                made++;
                if (made % 2 == 0 || i == to[part] - 1) {
                    x.step();
                }
            }
        }
        Due.holds("a hundred tokens", x.tokens() == 100 && made == 21 && !x.hasFailed());
        Due.holds("11 times 10 pairs", x.fired(0) == 110 && x.fired(1) == 110);
        int late = x.variable();
        run(x, same, F + late, 3);
        Due.is("all wake, and none fires again", run(x, same, F + late, F), 1);
    }

    // .. the removed ones stand no more; then the bodies are told, the first one first, each token .. active at once.
    private static void bodiesInTheirOrder() {
        Tellcourt x = withVariables(1);
        x.head(0, S0, ANY, false);
        x.body(1, S0, 0);
        x.body(2, S0, 0);
        x.rule();
        x.head(1, S0, ANY, true);
        x.guard(HAS, S0, 0);
        x.body(4, S0, 0);
        x.rule();
        x.head(1, S0, ANY, false);
        x.body(3, S0, 0);
        x.body(NONE, S0, 7);
        x.rule();
        Due.is("acts", run(x, told(x, 0, S0, 0), F, 0), 3);
        Due.is("the removed one does not stand for the body", x.fired(1), 0);
        int[] due = {0, 1, 3, 2};
        Due.is("tokens", x.tokens(), due.length);
        for (int i = 0; i < due.length; i++) {
            Due.is("the sort of " + i, x.part(i, 0), due[i]);
        }
        Due.holds("the second body is told though its head is gone", x.part(3, 1) == 7 && x.standing() == 2);
    }

    // Their slice are the tokens of the heads and the slices of these.
    private static void slicesOfTheHeads() {
        Tellcourt x = new Tellcourt();
        x.head(1, ANY, ANY, false);
        x.other(2, ANY, ANY, true);
        x.body(3, 0, 0);
        x.rule();
        run(x, told(x, 0, 0, 0), 0, 0);
        run(x, told(x, 5, 0, 0), 0, 0);
        run(x, x.when(HAS, 0, 0, told(x, 1, 0, 0)), 0, 0);
        run(x, told(x, 2, 0, 0), 0, 0);
        int[] due = {1, 0, 1, 1, 0};
        for (int i = 0; i < due.length; i++) {
            Due.is("in the slice: " + i, x.isMadeBy(4, i) ? 1 : 0, due[i]);
        }
    }

    // .. and the slices of these, where the heads are late and what is in their slices is early.
    private static void slicesOfLateHeads() {
        for (int early : new int[] {0, 3, 35}) {
            Tellcourt x = new Tellcourt();
            x.head(1, ANY, ANY, true);
            x.other(2, ANY, ANY, true);
            x.body(3, 0, 0);
            x.rule();
            int pass = x.token(5, 0, 0, false), zero = told(x, 0, 0, 0);
            runOften(x, pass, early);
            run(x, zero, 0, 0);
            runOften(x, pass, 95 - early);
            run(x, x.when(HAS, 0, 0, told(x, 1, 0, 0)), 0, 0);
            run(x, x.when(HAS, 0, 0, told(x, 2, 0, 0)), 0, 0);
            Due.is("the token of the rule", x.part(98, 0), 3);
            run(x, x.when(HAS + 3, 0, 0, zero), 0, 0);
            for (int i = 0; i < 100; i++) {
                Due.holds("made by a rule, " + i, x.isMadeBy(98, i) == (i == early || i == 96 || i == 97));
                Due.holds("made by that, " + i, x.isMadeBy(99, i) == (i == early || i >= 96 && i <= 98));
            }
        }
    }

    // isMadeBy: whether the first one has the other one in its slice, for all of a hundred.
    private static void slicesAtTheEdges() {
        Tellcourt x = new Tellcourt();
        int[] edges = {0, 63, 64, 98};
        int pass = x.token(5, 0, 0, false), mark = told(x, 1, S0, 0), at = 0;
        for (int i = 0; i < 99; i++) {
            boolean isEdge = i == edges[at];
            x.begin(isEdge ? mark : pass, at, 0);
            at += isEdge && at < 3 ? 1 : 0;
            if (x.waiting() == 30) {
                x.step();
            }
        }
        x.step();
        int all = told(x, 2, 0, 0);
        for (int i = 0; i < 4; i++) {
            all = x.when(HAS + 1, i, 0, all);
        }
        Due.is("four asks", run(x, all, 0, 0), 5);
        for (int i = 0; i < 100; i++) {
            boolean due = i == 0 || i == 63 || i == 64 || i == 98;
            Due.holds("99 and " + i, x.isMadeBy(99, i) == due && !x.isMadeBy(i, 99));
        }
    }

    private static void slicesOfOneEach() {
        for (int edge : new int[] {0, 1, 62, 63, 64, 65, 98}) {
            Tellcourt x = new Tellcourt();
            int pass = x.token(5, 0, 0, false);
            runOften(x, pass, edge);
            run(x, told(x, 1, 0, 0), 0, 0);
            runOften(x, pass, 98 - edge);
            run(x, x.when(HAS + 1, 0, 0, told(x, 2, 0, 0)), 0, 0);
            for (int i = 0; i < 100; i++) {
                Due.holds("of " + edge + " alone, and not of " + i, x.isMadeBy(99, i) == (i == edge));
            }
        }
    }

    // Those that wait keep their slices, whichever tokens these are of.
    private static void slicesOfThoseThatWait() {
        Tellcourt x = withVariables(2);
        int t = told(x, 0, S0, 0), late = x.when(KNOWN, S1, 0, told(x, 1, S0, 0));
        x.begin(t, 0, 0);
        x.step();
        runOften(x, x.token(5, 0, 0, false), 63);
        for (int i = 1; i <= 3; i++) {
            x.begin(t, i, 0);
        }
        x.step();
        int[] own = {64, 0, 65, 66};
        int[] slots = {1, 0, 2, 3};
        // This one waits before them and never goes on.
        x.begin(late, 0, F + 1);
        for (int i = 0; i < 4; i++) {
            x.begin(x.when(HAS, S0, 0, late), slots[i], F);
        }
        int bind = x.unless(true, KNOWN, S0, 0, x.equate(S0, 9));
        Due.is("all wait for a value", run(x, bind, F, 0), 1 + 4 + 1 + 4 + 1 + 4 + 4);
        for (int i = 0; i < 4; i++) {
            Due.is("in their order", x.part(67 + i, 1), slots[i]);
            for (int token = 0; token < x.tokens(); token++) {
                Due.holds("the slice of " + i + " and " + token, x.isMadeBy(67 + i, token) == (token == own[i]));
            }
        }
    }

    // Tokens told by rules last if all tokens of the heads last.
    private static void tokensOfRulesLastIfAllDo() {
        for (int i = 0; i < 8; i++) {
            boolean first = (i & 1) != 0, second = (i & 2) != 0, isOne = (i & 4) != 0;
            Tellcourt x = new Tellcourt();
            x.head(0, ANY, ANY, true);
            if (!isOne) {
                x.other(1, ANY, ANY, false);
            }
            x.body(2, 0, 0);
            x.rule();
            x.begin(x.token(1, 0, 0, second), 0, 0);
            run(x, x.token(0, 0, 0, first), 0, 0);
            Due.is("whether it lasts " + i, x.part(2, 4), first && (isOne || second) ? 1 : 0);
            Due.is("whether it stands " + i, x.part(2, 3), x.part(2, 4));
        }
    }

    // If the store has failed, nothing fires any more.
    private static void nothingFiresInAFailedStore() {
        Tellcourt x = withVariables(1);
        x.head(0, S0, ANY, true);
        x.other(1, ANY, ANY, true);
        x.body(NONE, S0, 6);
        x.body(2, 0, 0);
        x.rule();
        x.head(0, ANY, ANY, true);
        x.body(3, 0, 0);
        x.rule();
        int one = told(x, 1, 0, 0), zero = told(x, 0, 5, 0);
        x.begin(one, 0, 0);
        x.begin(one, 0, 0);
        x.begin(zero, 0, 0);
        x.begin(one, 0, 0);
        Due.is("acts", x.step(), 4);
        Due.holds("no second body, partner, rule or agent", x.hasFailed() && x.fired(0) == 1 && x.fired(1) == 0 && x.tokens() == 3);
        // Of those that wake the second one does not.
        Tellcourt y = withVariables(1);
        y.head(0, S0, S1, true);
        y.guard(KNOWN, S0, 0);
        y.body(NONE, S1, 6);
        y.rule();
        int t = told(y, 0, S0, S1);
        y.begin(t, F, 5);
        y.begin(t, F, 6);
        y.step();
        Due.is("acts of a value", run(y, y.equate(S0, 1), F, 0), 2);
        Due.holds("one woke", y.hasFailed() && y.fired(0) == 1);
    }

    // When two classes become one, or a class gets a value, all tokens that .. have an argument of that class ..
    private static void thoseOfTheClassWake() {
        for (int known = 0; known < 2; known++) {
            Tellcourt x = withVariables(60);
            int t = told(x, 0, S0, S1), same = x.equate(S0, S1);
            x.begin(same, F, F + 1);
            x.begin(t, 5, F);
            x.begin(t, F + 1, 5);
            x.begin(t, 5, 5);
            x.begin(t, F + 59, F + 58);
            x.begin(t, F + 58, 5);
            x.step();
            x.head(0, S0, S1, true);
            x.body(1, S0, S1);
            x.rule();
            Due.is("acts", run(x, same, F, known == 1 ? 5 : F + 59), known == 1 ? 3 : 4);
            Due.is("they wake", x.fired(0), known == 1 ? 2 : 3);
            // By rising numbers; those that have only another class do not.
            Due.holds("the first", x.part(5, 1) == 5 && x.part(5, 2) == (known == 1 ? 5 : F));
            Due.holds("the second", x.part(6, 1) == (known == 1 ? 5 : F) && x.part(6, 2) == 5);
            Due.is("the third", known == 1 ? F + 58 : x.part(7, 2), F + 58);
        }
        // Two classes of one value.
        Tellcourt y = withVariables(2);
        int u = told(y, 0, S0, 0), is = y.equate(S0, S1);
        y.begin(is, F, 5);
        y.begin(is, F + 1, 5);
        y.begin(u, F, 0);
        y.begin(u, F + 1, 0);
        y.begin(u, 5, 0);
        y.step();
        y.head(0, S0, ANY, true);
        y.body(1, S0, 0);
        y.rule();
        Due.is("both wake", run(y, is, F, F + 1), 3);
        Due.is("the value itself is of no class", y.fired(0), 2);
    }

    // .. all tokens that stand then .. (Those that do not stand any more when it is their turn are passed over.)
    private static void thoseThatStandThenWake() {
        Tellcourt x = withVariables(1);
        int pass = x.token(0, S0, 8, false), t = told(x, 0, S0, S1);
        x.begin(pass, F, 0);
        x.step();
        for (int i = 1; i <= 3; i++) {
            x.begin(t, F, i);
        }
        x.step();
        x.head(0, S0, 1, true);
        x.other(0, S0, 2, false);
        x.body(0, S0, 4);
        x.rule();
        x.head(0, S0, S1, true);
        x.guard(UNLIKE, S1, 1);
        x.body(1, S0, S1);
        x.rule();
        // The first removes the second and tells a fourth, which is active at once; then the third wakes.
        Due.is("acts", run(x, x.equate(S0, 6), F, 0), 4);
        Due.holds("one of each", x.fired(0) == 1 && x.fired(1) == 2);
        Due.holds("the fourth, told since, before the third", x.part(5, 2) == 4 && x.part(6, 2) == 3 && x.tokens() == 7);
        Due.holds("the second does not wake, nor the one that passed", x.part(2, 3) == 0 && x.part(0, 3) == 0);
    }

    // rule: .. tokens that stand are not made active by that.
    private static void rulesMadeLater() {
        Tellcourt x = withVariables(1);
        run(x, told(x, 0, S0, 0), F, 0);
        x.head(0, ANY, ANY, true);
        x.body(1, 0, 0);
        x.rule();
        Due.holds("not by being made", x.fired(0) == 0 && x.step() == 0 && x.tokens() == 1);
        Due.is("but when it wakes", run(x, x.equate(S0, 1), F, 0), 2);
    }

    // ---- running

    // Throws IllegalStateException if .. 30 are for the next step.
    private static void thirtyAgentsForTheNextStep() {
        Tellcourt x = new Tellcourt();
        int t = x.token(0, S0, 0, false);
        Due.is("none yet", x.waiting(), 0);
        for (int i = 1; i <= 30; i++) {
            Due.is("how many then", x.begin(t, i, 0), i);
            Due.is("waiting", x.waiting(), i);
        }
        Due.fails("the 31st", Due.STATE, () -> x.begin(t, 0, 0));
        Due.is("30 acts", x.step(), 30);
        Due.holds("each of them", x.tokens() == 30 && x.part(0, 1) == 1 && x.part(29, 1) == 30);
        Due.is("none is left", x.waiting(), 0);
        Due.is("the first again", x.begin(t, 0, 0), 1);
    }

    private static void moreThanThirtyByAStep() {
        for (int many = 29; many <= 31; many++) {
            Tellcourt x = new Tellcourt();
            int n = x.next(x.token(0, S0, 0, false)), two = x.both(n, n);
            for (int i = 0; i < many / 2; i++) {
                x.begin(two, i, 0);
            }
            if (many % 2 == 1) {
                x.begin(n, 99, 0);
            }
            x.step();
            Due.is("brought by a step", x.waiting(), many);
            if (many < 30) {
                Due.is("one more", x.begin(n, 0, 0), many + 1);
            }
            int waiting = x.waiting();
            Due.fails("barred by " + many, Due.STATE, () -> x.begin(n, 0, 0));
            Due.is("all act", x.step(), waiting);
            Due.is("the tokens of all that were brought", x.tokens(), many);
        }
    }

    // Each of 30 EACHs brings itself and a NEXT's node: 60 acts and 60 agents.
    private static void sixtyForTheNextStep() {
        Tellcourt x = new Tellcourt();
        int none = x.equate(0, 0), e = x.each(x.next(none));
        for (int i = 0; i < 30; i++) {
            x.begin(e, 0, 0);
        }
        Due.is("60 acts", x.step(), 60);
        Due.holds("60 for the next step", x.waiting() == 60 && !x.hasFailed());
        Due.is("more than 8 schedules", x.ends(), NONE);
        // The EACHs come before the nodes that they bring: 60 acts, 30 of the queue among them.
        Due.is("60 acts, and more would be", x.step(), 60);
        Due.holds("it fails", x.hasFailed() && x.clock() == 1);
        Due.is("what came until then", x.waiting(), 30);
        // Those that may act once each: 59, and none is lost.
        Tellcourt y = new Tellcourt();
        int mark = y.token(0, S0, 0, false), n = y.next(mark), two = y.both(n, n);
        for (int i = 0; i < 15; i++) {
            y.begin(two, i, 0);
            y.begin(n, i, 1);
        }
        Due.is("15 of three acts, and 15", y.step(), 60);
        Due.is("45 for the next step", y.waiting(), 45);
        Due.is("their acts", y.step(), 45);
        Due.is("their tokens", y.tokens(), 45);
    }

    // .. it is for the next step, behind those that are.
    private static void begunBehindThoseThatAre() {
        Tellcourt x = new Tellcourt();
        int t = told(x, 0, S0, 0);
        x.begin(x.next(t), 1, 0);
        x.begin(x.unless(false, UNLIKE, 0, 0, t), 2, 0);
        x.step();
        Due.is("the third", x.begin(t, 3, 0), 3);
        x.step();
        for (int i = 0; i < 3; i++) {
            Due.is("in their order", x.part(i, 1), i + 1);
        }
    }

    // ---- schedules

    /**
     * A chain of agents, one in the queue at a time, each of which makes a variable: so many that fail in a TRY, and
     * one that does not. The leaf beside it may be taken at any time: there is one schedule more than the chain has.
     */
    private static Tellcourt chained(int failing, boolean isTelling) {
        Tellcourt x = new Tellcourt();
        int none = x.equate(0, 0), hidden = x.hide(0, failing(x));
        int link = x.attempt(x.hide(0, none), none);
        for (int i = 0; i < failing; i++) {
            link = x.attempt(hidden, link);
        }
        x.begin(link, 0, 0);
        x.begin(isTelling ? x.attempt(x.hide(0, told(x, 0, S0, S0)), none) : none, 0, 0);
        return x;
    }

    // .. as long as there are no more than 8 .. NONE if there are more than 8 schedules.
    private static void upToEightSchedules() {
        for (int failing = 0; failing <= 8; failing++) {
            Tellcourt x = chained(failing, true);
            Due.is("as many ends as schedules", x.ends(), failing <= 6 ? failing + 2 : NONE);
            Due.holds("nothing was done", x.variables() == 0 && x.tokens() == 0 && x.waiting() == 2 && x.clock() == 0);
            Due.is("again", x.ends(), failing <= 6 ? failing + 2 : NONE);
            Due.is("acts of the first schedule", x.step(), 3 * (failing + 2));
            tokenIs("the leaf is the second one that acts", x, 0, 0, F + 1, F + 1, 1, 1);
        }
    }

    private static void eightSchedulesAndOneEnd() {
        Due.is("eight schedules", chained(6, false).ends(), 1);
        Due.is("nine schedules", chained(7, false).ends(), NONE);
        // 1, 2 and 6 schedules of so many in the queue, and 24 of four.
        Tellcourt x = new Tellcourt();
        int none = x.equate(0, 0);
        for (int many = 1; many <= 5; many++) {
            x.begin(none, 0, 0);
            Due.is("of " + many, x.ends(), many <= 3 ? 1 : NONE);
        }
    }

    private static void endsOfNothing() {
        Tellcourt x = new Tellcourt();
        Due.is("of a new object", x.ends(), 1);
        x.begin(failing(x), 0, 0);
        Due.is("of one that fails", x.ends(), 1);
        Due.holds("it did not fail by that", !x.hasFailed() && x.clock() == 0 && x.waiting() == 1);
        Tellcourt y = withVariables(60);
        Due.is("of variables alone", y.ends(), 1);
    }

    // .. it is no step of the 30, and not barred by these.
    private static void endsAreNoStep() {
        Tellcourt x = chained(0, true);
        for (int i = 0; i < 40; i++) {
            Due.is("any number of times", x.ends(), 2);
        }
        for (int step = 1; step <= 30; step++) {
            Due.holds("a step", x.step() >= 0 && x.clock() == step);
        }
        Due.fails("the 31st", Due.STATE, x::step);
        int link = x.attempt(x.hide(0, 0), 0);
        x.begin(link, 0, 0);
        x.begin(x.attempt(x.hide(0, told(x, 0, S0, S0)), 0), 0, 0);
        Due.is("not barred", x.ends(), 2);
        Due.holds("and the clock stays", x.clock() == 30 && x.waiting() == 2);
    }

    /** Two ends: the race's first side if a value comes before its EITHER, and the second one otherwise. */
    private static int race(Tellcourt x, int one, int other, int variable) {
        x.begin(x.either(x.when(KNOWN, S0, 0, one), 1, x.when(EQUAL, 0, 0, other), 0), variable, F);
        x.begin(x.equate(S0, 1), variable, F);
        return x.ends();
    }

    // .. the same tokens stand, each as often.
    private static void endsCountEachAsOften() {
        Tellcourt x = withVariables(1);
        int a = told(x, 0, 0, 0), b = told(x, 1, 0, 0);
        x.begin(a, 0, 0);
        x.begin(b, 0, 0);
        x.step();
        Due.is("a twice and b once, or a once and b twice", race(x, a, b, F), 2);
        Tellcourt y = withVariables(1);
        int c = told(y, 0, 0, 0);
        Due.is("twice or once", race(y, c, y.attempt(y.both(c, c), c), F), 2);
        Tellcourt z = withVariables(1);
        int d = told(z, 0, 0, 0);
        Due.is("once, either way", race(z, d, told(z, 0, 0, 0), F), 1);
    }

    // .. by their sorts, whether they last, and arguments: as their value, or .. the lowest variable of their class.
    private static void endsBySortLastingAndArguments() {
        for (int variable : new int[] {12, 13, 14, 59}) {
            // What a side of the race tells, by the arguments that it has.
            int[][] due = {{5, S1, 6, -99, 2}, {5, S1, 4, 99, 2}, {S1, 5, -99, 6, 2}, {S1, 5, 99, 4, 2}, {S1, 5, 5, S1, 2}, {5, S1, 5, S1, 1}};
            for (int[] d : due) {
                Tellcourt x = withVariables(60);
                int one = told(x, 0, d[0], d[1]), other = told(x, 0, d[2], d[3]);
                x.begin(x.either(x.when(KNOWN, S0, 0, one), 1, x.when(EQUAL, 0, 0, other), 0), F, F + variable);
                x.begin(x.equate(S0, 1), F, 0);
                Due.is("arguments with the variable " + variable, x.ends(), d[4]);
            }
        }
        // In a step that fails tokens stand that do not last: a rule fails it as soon as one of them is told. If the
        // second side is told before the value, the variable has none: that is one end more.
        int[][] kinds = {{0, 1, 0, 1, 2}, {0, 0, 0, 1, 3}, {0, 1, 0, 0, 3}, {0, 1, 1, 0, 3}, {0, 0, 1, 1, 3}, {4, 1, 5, 0, 3},
            {5, 0, 4, 1, 3}, {5, 1, 5, 0, 3}};
        for (int[] k : kinds) {
            Tellcourt x = withVariables(14);
            for (int sort = 0; sort < 6; sort++) {
                x.head(sort, ANY, ANY, true);
                x.body(NONE, 0, 1);
                x.rule();
            }
            String what = "sorts " + k[0] + " and " + k[2] + ", lasting " + k[1] + " and " + k[3];
            int one = x.token(k[0], 0, 0, k[1] == 1), other = x.token(k[2], 0, 0, k[3] == 1);
            Due.is(what, race(x, one, other, F), k[4]);
            x.step();
            Due.holds("it did not fail by that, but by a step", x.hasFailed() && x.fired(k[0]) + x.fired(k[2]) >= 1);
        }
        for (int last = 0; last < 2; last++) {
            Tellcourt x = withVariables(14);
            x.head(0, ANY, ANY, true);
            x.body(NONE, 0, 1);
            x.rule();
            int one = x.token(0, S1, 0, last == 1), other = x.token(0, -99, 0, last == 0);
            x.begin(x.either(x.when(KNOWN, S0, 0, one), 1, x.when(EQUAL, 0, 0, other), 0), F, F + 13);
            x.begin(x.equate(S0, 1), F, 0);
            Due.is("the 14th variable, and the least value", x.ends(), 3);
        }
        // The least token is there or not.
        Tellcourt y = withVariables(1);
        y.begin(y.token(0, -99, -99, false), 0, 0);
        y.begin(failing(y), 0, 0);
        Due.is("the least token, or none", y.ends(), 2);
    }

    // .. have the same values then, or none: classes without a value are told apart by tokens alone.
    private static void endsOfClasses() {
        // The variable 2 becomes one with a lower one, or not; a token that stands has none of them, 2, or the lower one.
        for (int lower = 0; lower < 2; lower++) {
            int[][] tokens = {{9, 1}, {F + 2, 2}, {F + lower, 1}};
            for (int[] token : tokens) {
                Tellcourt x = withVariables(3);
                run(x, told(x, 0, S0, S0), token[0], 0);
                int one = x.equate(S0, S0), other = x.equate(S0, S1);
                x.begin(x.either(x.when(HAS + 1, 0, 0, one), 1, x.when(EQUAL, 0, 0, other), 0), F + lower, F + 2);
                x.begin(x.token(1, 0, 0, false), 0, 0);
                Due.is("ends of a class of " + lower + " and a token of " + token[0], x.ends(), token[1]);
            }
        }
    }

    // Two ends are the same if ..: nothing else tells them apart.
    private static void endsOfNothingElse() {
        for (int kind = 0; kind < 8; kind++) {
            Tellcourt x = withVariables(1);
            int none = x.equate(0, 0), t = told(x, 0, 0, 0), fail = failing(x), side = none;
            switch (kind) {
                case 0 -> side = x.attempt(x.both(t, fail), none);
                case 1 -> side = x.hide(2, none);
                case 2 -> side = x.next(none);
                case 3 -> side = x.lot(1, none, 2, none);
                case 4 -> side = x.both(none, none);
                case 5 -> side = x.token(0, 0, 0, false);
                case 6 -> side = x.unless(false, HAS, 0, 0, none);
                default -> {
                    x.head(0, ANY, ANY, false);
                    x.body(NONE, 0, 0);
                    x.rule();
                    side = t;
                }
            }
            Due.is("what one side does alone: " + kind, race(x, side, none, F), 1);
        }
    }

    // .. all variables that there are now have the same values then, or none.
    private static void endsOfManyVariables() {
        for (int variable : new int[] {0, 58, 59}) {
            Tellcourt x = withVariables(60);
            runOften(x, told(x, 5, 0, 0), 99);
            // The hundredth token passes; it comes before the EITHER, or behind it.
            x.begin(x.either(x.when(HAS, 0, 0, x.equate(S0, 1)), 1, x.when(EQUAL, 0, 0, x.equate(S0, 2)), 0), F + variable, 0);
            x.begin(x.token(0, 0, 0, false), 0, 0);
            Due.is("the values 1 or 2 of " + variable, x.ends(), 2);
        }
        // One that is made in the step does not matter.
        Tellcourt y = withVariables(1);
        Due.is("the value of a hidden one", race(y, y.hide(2, y.equate(S2, 1)), y.hide(2, y.equate(S2, 2)), F), 1);
        // A value of before, in the last class.
        Tellcourt z = withVariables(60);
        z.begin(z.equate(S0, S1), F + 59, F + 58);
        z.step();
        z.begin(z.when(EQUAL, S0, S1, z.equate(S0, 1)), F + 58, F + 59);
        z.begin(z.equate(S0, 2), F + 59, 0);
        Due.is("a class of before", z.ends(), 2);
    }

    private static void endsOfManyTokens() {
        Tellcourt x = withVariables(60);
        runOften(x, told(x, 5, 0, 0), 99);
        Due.is("the hundredth token", race(x, told(x, 0, 0, 0), told(x, 1, 0, 0), F + 59), 2);
        Tellcourt w = withVariables(60);
        runOften(w, told(w, 5, 0, 0), 99);
        Due.is("the same hundredth token", race(w, told(w, 0, 0, 0), told(w, 0, 0, 0), F + 59), 1);
        // A token of before is found, if it is the last one.
        Tellcourt y = withVariables(1);
        runOften(y, y.token(5, 0, 0, false), 99);
        run(y, told(y, 4, -99, 99), 0, 0);
        y.begin(y.when(HAS + 4, -99, 99, y.equate(S0, 1)), F, 0);
        y.begin(y.equate(S0, 2), F, 0);
        Due.is("the last token of before", y.ends(), 2);
    }

    private static void endsOfTheLastDefinition() {
        Tellcourt x = withVariables(1);
        x.define(5, x.equate(S0, 1));
        x.begin(x.call(5, S0, 0), F, 0);
        x.begin(x.equate(S0, 2), F, 0);
        Due.is("the last definition", x.ends(), 2);
    }

    // .. whenever an agent is taken out of the queue of the step (not in a TRY).
    private static void endsWithinATry() {
        Tellcourt x = withVariables(1);
        int none = x.equate(0, 0), one = x.equate(S0, 1), two = x.equate(S0, 2);
        x.begin(x.attempt(chain(x, one, two, none, none, none, none), none), F, 0);
        Due.is("no choice in it", x.ends(), 1);
        x.begin(two, F, 0);
        // The TRY fails in any case, and brings its other one: 2 or 3 schedules, all with the value 2.
        Due.is("but of it", x.ends(), 1);
        x.begin(x.attempt(one, none), F, 0);
        Due.is("more than 8 schedules of two TRYs and another", x.ends(), NONE);
    }

    // ---- what is asked

    // 1, 2 an argument: its value, or, if it has none, FREE and the lowest variable of its class.
    private static void thePartsOfAToken() {
        Tellcourt x = withVariables(60);
        int same = x.equate(S0, S1);
        run(x, x.token(5, S0, S1, false), F + 59, F + 30);
        tokenIs("its own variables", x, 0, 5, F + 59, F + 30, 0, 0);
        run(x, same, F + 59, F + 58);
        tokenIs("a lower one", x, 0, 5, F + 58, F + 30, 0, 0);
        run(x, same, F + 30, F + 58);
        tokenIs("the lowest of both", x, 0, 5, F + 30, F + 30, 0, 0);
        run(x, same, F, F + 59);
        tokenIs("the first variable", x, 0, 5, F, F, 0, 0);
        run(x, same, F + 58, -99);
        tokenIs("the value", x, 0, 5, -99, -99, 0, 0);
    }

    // Returns how often a rule fired.
    private static void howOftenARuleFired() {
        Tellcourt x = new Tellcourt();
        x.head(0, ANY, ANY, false);
        x.body(NONE, 0, 0);
        x.rule();
        int t = told(x, 0, 0, 0);
        for (int step = 1; step <= 3; step++) {
            for (int i = 0; i < 30; i++) {
                x.begin(t, 0, 0);
            }
            Due.is("acts", x.step(), 60);
            Due.is("how often", x.fired(0), 30 * step);
        }
        Due.is("none stands", x.standing(), 0);
    }

    // standingAnew: Returns the same, found by doing all steps again from the beginning.
    private static void standingAndDoneAnew() {
        Tellcourt x = withVariables(1);
        Due.holds("nothing yet", x.standing() == 0 && x.standingAnew() == 0);
        int t = told(x, 0, 0, 0), l = x.lot(1, t, 1, x.equate(0, 0));
        x.begin(l, 0, 0);
        Due.holds("begun, but no step", x.standing() == 0 && x.standingAnew() == 0);
        for (int i = 0; i < 30; i++) {
            x.step();
            Due.is("done anew at " + i, x.standingAnew(), x.standing());
            if (i < 29) {
                x.begin(l, 0, 0);
            }
        }
        Due.holds("some were drawn, and some not", x.standing() > 0 && x.standing() < 30);
        Due.is("a second time", x.standingAnew(), x.standing());
        Due.is("not another step", x.clock(), 30);
    }

    // .. from the beginning: with an empty store, no definitions and no rules, whatever was done anew before.
    private static void doneAnewFromNothing() {
        Tellcourt x = new Tellcourt();
        int t = told(x, 0, 0, 0);
        run(x, x.call(0, 0, 0), 0, 0);
        x.define(0, t);
        for (int i = 0; i < 2; i++) {
            Due.is("a CALL of what was not defined then", x.standingAnew(), 0);
            Due.is("ends", x.ends(), 1);
        }
        // A rule that was not made then; one that fired since.
        run(x, t, 0, 0);
        x.head(0, ANY, ANY, true);
        x.body(1, 0, 0);
        x.rule();
        for (int i = 0; i < 2; i++) {
            Due.is("a token of before the rule", x.standingAnew(), 1);
            Due.is("ends with the rule", x.ends(), 1);
        }
        run(x, t, 0, 0);
        Due.holds("one of behind it", x.standingAnew() == 3 && x.standingAnew() == 3);
        // An agent was begun with a variable that had a value: it is the variable that becomes one with another.
        Tellcourt z = withVariables(2);
        int same = z.equate(S0, S1);
        run(z, same, F, 5);
        run(z, told(z, 0, S0, 0), F, 0);
        z.head(0, ANY, ANY, false);
        z.body(NONE, 0, 0);
        z.rule();
        Due.is("it wakes", run(z, same, F, F + 1), 2);
        Due.holds("and is removed", z.standing() == 0 && z.standingAnew() == 0);
        // Schedules that were tried, and left because there are too many, are not taken.
        Tellcourt w = new Tellcourt();
        int one = told(w, 1, 0, 0), zero = told(w, 0, 0, 0), nothing = w.equate(0, 0);
        w.begin(w.either(w.when(HAS, 0, 0, nothing), 1, w.when(EQUAL, 0, 0, one), 0), 0, 0);
        run(w, zero, 0, 0);
        Due.is("the EITHER is the first of the queue", w.standing(), 2);
        for (int i = 0; i < 4; i++) {
            w.begin(nothing, 0, 0);
        }
        Due.is("too many schedules", w.ends(), NONE);
        Due.is("done anew behind them", w.standingAnew(), 2);
        Due.is("a step behind them", w.step(), 4);
        // Another schedule told as the first token what is told in a TRY that fails.
        Tellcourt y = new Tellcourt();
        int mark = told(y, 0, 0, 0), none = y.equate(0, 0);
        y.begin(y.attempt(y.both(told(y, 1, 0, 0), failing(y)), none), 0, 0);
        y.begin(mark, 0, 0);
        Due.is("two schedules or three", y.ends(), 1);
        y.step();
        Due.holds("one token stands, the second", y.standing() == 1 && y.tokens() == 2 && y.part(1, 3) == 1);
        Due.is("done anew", y.standingAnew(), 1);
    }
}
