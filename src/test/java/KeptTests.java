/** What must be kept, and what must not be left behind: slices, histories, tries, schedules and steps done anew. */
public final class KeptTests extends Scenes {
    private KeptTests() {
    }

    public static void main(String[] args) {
        classes();
        slices();
        slicesOfRules();
        highNumbers();
        highSlicesOfAgents();
        historyInTries();
        failuresAmongRules();
        deepFirings();
        triesOneBehindAnother();
        failedTryKeepsWhatWas();
        endsSeeTheState();
        endsTellTokensApart();
        endsOfFailures();
        anew();
        anewAgain();
        anewOfLimits();
        Due.end("KeptTests");
    }

    private static void classes() {
        Tellcourt x = withVariables(4);
        int same = x.equate(S0, S1);
        run(x, same, F + 3, 5);
        run(x, same, F + 1, F + 3);
        Due.is("3 the lower class gets the value of the higher one", x.value(1), 5);
        run(x, same, F, F + 1);
        Due.is("3 and so does the lowest", x.value(0), 5);
        Due.holds("3 all but one are one", x.areOne(0, 3) && x.areOne(1, 3) && !x.areOne(2, 0));
        // Only tokens with an argument of the class wake, be it the first or the second one.
        Tellcourt y = withVariables(3);
        int t = told(y, 0, S0, S1);
        y.begin(t, F, 1);
        y.begin(t, 2, F);
        y.begin(t, F + 1, F + 2);
        y.begin(t, F, F);
        y.step();
        y.head(0, S0, S1, true);
        y.body(1, S0, S1);
        y.rule();
        run(y, y.equate(S0, 7), F, 0);
        Due.is("22 those of the class wake", y.fired(0), 3);
        Due.holds("22 by rising numbers", y.part(4, 2) == 1 && y.part(5, 1) == 2 && y.part(6, 2) == 7);
    }

    private static void slices() {
        Tellcourt x = new Tellcourt();
        int t = told(x, 0, S0, 0), last = told(x, 1, S0, 0);
        x.begin(t, 1, 0);
        x.begin(t, 2, 0);
        x.begin(t, 3, 0);
        x.step();
        // Three asks, one of them through an EITHER, with a step between them, and all of the kinds that hand on.
        int three = x.when(HAS, 3, 0, last);
        int two = x.either(x.when(HAS, 2, 0, x.hide(3, x.next(three))), 0, x.when(HAS + 5, 0, 0, last), 0);
        x.define(0, two);
        int one = x.when(HAS, 1, 0, x.both(x.call(0, 9, 9), x.each(last)));
        x.begin(last, 5, 0);
        x.begin(one, 6, 0);
        x.begin(last, 7, 0);
        x.step();
        Due.holds("32 begun agents have none", !x.isMadeBy(3, 0) && !x.isMadeBy(4, 0) && x.part(4, 1) == 7);
        Due.holds("32 one ask", x.part(5, 1) == 6 && x.isMadeBy(5, 0) && !x.isMadeBy(5, 1) && !x.isMadeBy(5, 2));
        x.begin(last, 8, 0);
        x.step();
        Due.holds("32 one that was begun since", x.part(6, 1) == 8 && !x.isMadeBy(6, 0));
        Due.holds("32 the EACH keeps its own", x.part(7, 1) == 6 && x.isMadeBy(7, 0) && !x.isMadeBy(7, 1));
        Due.holds("32 three asks", x.part(8, 1) == 9 && x.isMadeBy(8, 0) && x.isMadeBy(8, 1) && x.isMadeBy(8, 2));
        Due.is("32 no more", x.tokens(), 9);
        // Those that wait keep theirs, also when others before them go on; so do UNLESS and DEFAULT.
        Tellcourt y = new Tellcourt();
        int m = told(y, 0, S0, 0), mark = told(y, 1, S0, S1);
        y.begin(m, 1, 0);
        y.begin(m, 2, 0);
        y.step();
        int rest = y.when(HAS + 2, S1, 0, mark);
        int idle = y.unless(false, HAS + 3, 0, 0, mark), guess = y.unless(true, HAS + 4, 0, 0, mark);
        int all = y.both(y.both(rest, idle), guess);
        y.begin(y.when(HAS, 1, 0, all), 1, 7);
        y.begin(y.when(HAS, 2, 0, all), 2, 8);
        y.begin(told(y, 2, 8, 0), 0, 0);
        y.begin(y.unless(true, HAS + 5, 0, 0, told(y, 2, 7, 0)), 5, 5);
        y.step();
        y.step();
        int seen = 0;
        for (int i = 2; i < y.tokens(); i++) {
            if (y.part(i, 0) == 1) {
                int own = y.part(i, 1) - 1;
                Due.holds("32 waiting, token " + i, y.isMadeBy(i, own) && !y.isMadeBy(i, 1 - own));
                seen++;
            }
        }
        Due.is("32 six marks", seen, 6);
    }

    private static void slicesOfRules() {
        Tellcourt x = withVariables(1);
        x.head(0, ANY, ANY, true);
        x.other(1, S0, ANY, false);
        x.body(2, S0, 0);
        x.body(3, S0, 0);
        x.rule();
        int zero = told(x, 0, 0, 0), one = told(x, 1, S0, 0);
        run(x, zero, 0, 0);
        x.begin(one, 1, 0);
        x.begin(one, 2, 0);
        x.step();
        // 0; 1, which brings 2 and 3; 4, which brings 5 and 6.
        Due.is("36 tokens", x.tokens(), 7);
        for (int i = 2; i <= 3; i++) {
            Due.holds("36 both heads, token " + i, x.isMadeBy(i, 0) && x.isMadeBy(i, 1) && !x.isMadeBy(i, 2) && !x.isMadeBy(i, 4));
            Due.holds("36 nothing of the firing before, token " + (i + 3), x.isMadeBy(i + 3, 0) && x.isMadeBy(i + 3, 4) && !x.isMadeBy(i + 3, 1));
        }
        // Waking leaves no token behind in what wakes later.
        Tellcourt y = withVariables(2);
        int t = told(y, 0, S0, 0);
        y.begin(t, F, 0);
        y.begin(t, F + 1, 0);
        y.step();
        y.head(0, S0, ANY, true);
        y.body(1, S0, 0);
        y.rule();
        y.begin(y.equate(S0, 1), F, 0);
        y.step();
        Due.holds("36 the first wakes alone", y.fired(0) == 1 && y.part(2, 1) == 1);
        run(y, y.equate(S0, 2), F + 1, 0);
        Due.holds("36 then the second", y.fired(0) == 2 && y.part(3, 1) == 2 && !y.isMadeBy(3, 0));
    }

    /** Passing tokens, so that the next one told has a high number. */
    private static void fill(Tellcourt x, int many) {
        runOften(x, x.token(5, -1, -1, false), many);
    }

    private static void highNumbers() {
        Tellcourt x = withVariables(1);
        int one = told(x, 1, S0, S1), zero = told(x, 0, S0, S1);
        run(x, one, F, 1);
        fill(x, 62);
        x.head(0, S0, ANY, true);
        x.other(1, S0, ANY, true);
        x.body(2, S0, 0);
        x.rule();
        // 63 is of sort 0; its partners are 0, 65 and 67: their firings are 64, 66 and 68.
        x.begin(zero, F, 0);
        x.begin(one, F, 2);
        x.begin(one, F, 3);
        x.step();
        Due.is("36 three pairs", x.fired(0), 3);
        Due.holds("32 63 and 0", x.isMadeBy(64, 63) && x.isMadeBy(64, 0) && !x.isMadeBy(64, 1) && !x.isMadeBy(64, 65));
        Due.holds("32 63 and 65", x.isMadeBy(66, 63) && x.isMadeBy(66, 65) && !x.isMadeBy(66, 0) && !x.isMadeBy(66, 64));
        Due.holds("32 63 and 67", x.isMadeBy(68, 63) && x.isMadeBy(68, 67) && !x.isMadeBy(68, 65) && !x.isMadeBy(68, 3));
        run(x, x.equate(S0, 1), F, 0);
        Due.is("36 no pair again", x.fired(0), 3);
        // Waking tokens on both sides of 64, and 64 itself with what is behind it.
        Tellcourt y = withVariables(1);
        int t = told(y, 0, S0, S1);
        run(y, t, F, 1);
        fill(y, 62);
        y.begin(t, F, 2);
        y.begin(t, F, 3);
        y.begin(t, F, 4);
        y.step();
        y.head(0, S0, S1, true);
        y.body(1, S0, S1);
        y.rule();
        run(y, y.equate(S0, 9), F, 0);
        Due.is("22 four wake", y.fired(0), 4);
        for (int i = 0; i < 4; i++) {
            int from = i == 0 ? 0 : 62 + i;
            Due.holds("22 wake " + i, y.part(66 + i, 2) == 1 + i && y.isMadeBy(66 + i, from) && !y.isMadeBy(66 + i, 63 - i));
        }
        // 64 as the second head, and 0: they share a bit, but not a row.
        Tellcourt z = withVariables(1);
        int a = told(z, 1, S0, 0), b = told(z, 0, S0, 0);
        run(z, a, F, 0);
        fill(z, 63);
        z.begin(a, F, 0);
        z.step();
        z.head(0, S0, ANY, true);
        z.other(1, S0, ANY, true);
        z.body(2, S0, 0);
        z.rule();
        run(z, b, F, 0);
        Due.is("36 with 0 and with 64", z.fired(0), 2);
        Due.holds("36 slices of these", z.isMadeBy(66, 65) && z.isMadeBy(66, 0) && !z.isMadeBy(66, 64) && z.isMadeBy(67, 64) && !z.isMadeBy(67, 0));
    }

    private static void highSlicesOfAgents() {
        Tellcourt x = new Tellcourt();
        int t = told(x, 0, S0, 0), mark = told(x, 1, S0, 0);
        fill(x, 66);
        x.begin(t, 1, 0);
        x.begin(t, 2, 0);
        x.step();
        int both = x.when(HAS, 1, 0, x.next(x.when(HAS, 2, 0, x.both(mark, x.each(mark)))));
        run(x, both, 7, 0);
        x.begin(mark, 8, 0);
        x.step();
        Due.holds("32 a fresh one has none", x.part(68, 1) == 8 && !x.isMadeBy(68, 66) && !x.isMadeBy(68, 67));
        Due.holds("32 66 and 67", x.part(69, 1) == 7 && x.isMadeBy(69, 66) && x.isMadeBy(69, 67) && !x.isMadeBy(69, 2) && !x.isMadeBy(69, 3));
        x.begin(mark, 9, 0);
        x.begin(mark, 9, 0);
        x.step();
        Due.holds("32 those begun behind it have none", x.part(71, 1) == 9 && !x.isMadeBy(71, 66) && !x.isMadeBy(72, 67));
        Due.holds("32 the EACH has them", x.part(73, 1) == 7 && x.isMadeBy(73, 66) && x.isMadeBy(73, 67));
    }

    private static void failuresAmongRules() {
        // A TRY that fails in a body leaves nothing to do: no second body, no partner, no other token that wakes.
        Tellcourt x = withVariables(1);
        x.head(0, S0, ANY, true);
        x.other(1, S0, ANY, true);
        x.body(NONE, S0, 1);
        x.body(2, S0, 0);
        x.rule();
        int zero = told(x, 0, S0, 0), one = told(x, 1, S0, 0), other = told(x, 3, 0, 0);
        x.begin(one, 5, 0);
        x.begin(one, 5, 0);
        Due.is("14 acts", run(x, x.attempt(zero, other), 5, 0), 6);
        Due.is("14 it fired once", x.fired(0), 1);
        Due.is("14 nothing was told by it", x.tokens(), 4);
        Due.holds("14 the other one", x.part(2, 3) == 0 && x.part(3, 0) == 3);
        Tellcourt y = withVariables(2);
        int t = told(y, 0, S0, S1), stand = told(y, 3, 0, 0);
        y.begin(t, F, 1);
        y.begin(t, F, 2);
        y.step();
        y.head(0, S0, 1, true);
        y.body(NONE, S0, 9);
        y.rule();
        y.head(0, S0, 2, true);
        y.body(2, S0, 0);
        y.rule();
        run(y, y.attempt(y.equate(S0, 8), stand), F, 0);
        Due.holds("14 the second one does not wake", y.fired(0) == 1 && y.fired(1) == 0 && y.tokens() == 3);
        // At the 60th act, too: a firing too many fails the TRY, and then the other one fails the store.
        Tellcourt z = new Tellcourt();
        z.head(0, S0, S1, false);
        z.body(0, S1, S0);
        z.rule();
        Due.is("14 an endless rule", run(z, z.attempt(told(z, 0, 1, 2), told(z, 3, 0, 0)), 0, 0), 60);
        Due.holds("14 the store fails", z.hasFailed() && z.fired(0) == 58 && z.standing() == 0 && z.tokens() == 59);
    }

    private static void deepFirings() {
        // Each firing wakes the token of the next one: 59 firings within one another, and the act that begins them.
        Tellcourt x = withVariables(60);
        int t = told(x, 0, S0, S1);
        for (int i = 0; i < 59; i++) {
            x.begin(t, F + i, F + i + 1);
            if (x.waiting() == 20) {
                x.step();
            }
        }
        x.step();
        x.head(0, S0, S1, true);
        x.guard(KNOWN, S0, 0);
        x.body(NONE, S1, 7);
        x.rule();
        x.begin(x.equate(S0, 7), F, 0);
        Due.is("22 one schedule", x.ends(), 1);
        Due.is("22 sixty acts", x.step(), 60);
        Due.holds("22 all have the value", !x.hasFailed() && x.fired(0) == 59 && x.value(59) == 7);
        Due.is("22 done anew", x.standingAnew(), 59);
    }

    private static void historyInTries() {
        // A TRY that fails forgets its own firings, and no others, for both rules and all places.
        Tellcourt x = withVariables(2);
        x.head(5, ANY, ANY, true);
        x.body(5, 0, 0);
        x.rule();
        x.head(0, S0, ANY, true);
        x.other(1, S1, ANY, true);
        x.guard(KNOWN, S0, 0);
        x.body(2, S0, S1);
        x.rule();
        x.head(1, S0, 3, true);
        x.body(3, S0, 0);
        x.rule();
        int zero = told(x, 0, S0, 0), one = told(x, 1, S1, S2), three = told(x, 1, S1, 3);
        int fail = x.equate(0, 1), bind = x.equate(S0, 4);
        x.begin(one, F, F + 1);
        x.begin(three, F, F + 1);
        x.begin(zero, F, 0);
        x.step();
        Due.holds("14 before", x.fired(1) == 0 && x.fired(2) == 1);
        run(x, x.attempt(x.both(bind, fail), told(x, 4, 0, 0)), F, 0);
        Due.holds("14 fired in the TRY", x.fired(1) == 2 && x.value(0) == 100);
        run(x, bind, F, 0);
        Due.is("14 fires again for both", x.fired(1), 4);
        run(x, x.equate(S0, 8), F + 1, 0);
        Due.is("14 but not for what was told before", x.fired(2), 1);
        Due.is("14 nothing is repeated", x.fired(1), 4);
        // In one step: a firing before the TRY is remembered though the TRY fails.
        Tellcourt y = withVariables(2);
        y.head(0, S0, S1, true);
        y.guard(KNOWN, S0, 0);
        y.body(1, S0, 0);
        y.rule();
        int t = told(y, 0, S0, S1), by = y.equate(S0, 4), other = y.equate(S1, 5);
        int stop = y.equate(0, 1);
        y.begin(t, F, F + 1);
        y.begin(by, F, 0);
        y.begin(y.attempt(y.both(other, stop), y.equate(0, 0)), F, F + 1);
        y.begin(other, F, F + 1);
        y.step();
        Due.is("14 fired before the TRY, and not again", y.fired(0), 1);
        // An inner TRY that fails, and an outer one that does not: what the outer one fired before stays.
        Tellcourt z = withVariables(3);
        z.head(0, S0, S1, true);
        z.guard(KNOWN, S0, 0);
        z.body(1, S0, 0);
        z.rule();
        int zt = told(z, 0, S0, S1), zBy = z.equate(S0, 4), zOther = z.equate(S1, 5);
        z.begin(zt, F, F + 1);
        z.begin(zt, F + 2, F + 1);
        z.step();
        int inner = z.attempt(z.both(zOther, z.both(z.equate(S2, 1), z.equate(0, 1))), zOther);
        run(z, z.attempt(z.both(zBy, inner), zt), F, F + 1);
        Due.is("14 once in the outer one", z.fired(0), 1);
        Due.holds("14 the outer one's values", z.value(0) == 4 && z.value(1) == 5);
    }

    private static void triesOneBehindAnother() {
        // The first one fails with agents in its queue, that wait, that are assumed and for the next step.
        Tellcourt x = withVariables(1);
        int left = told(x, 0, 1, 0), late = told(x, 1, 1, 0), fail = x.equate(0, 1);
        int wait = x.when(KNOWN, S0, 0, late), guess = x.unless(true, HAS + 1, 0, 0, x.both(fail, left));
        int idle = x.unless(false, HAS + 2, 0, 0, late);
        int first = x.attempt(x.both(x.both(wait, idle), x.both(guess, x.next(late))), told(x, 2, 0, 0));
        int second = x.attempt(x.equate(S0, 3), told(x, 3, 0, 0));
        x.begin(first, F, 0);
        x.begin(second, F, 0);
        // 1 + both, both, both, wait, idle, guess, next; both, fail; then the other one; 1 + 1.
        Due.is("14 acts", x.step(), 13);
        Due.is("14 only the other one stands", x.standing(), 1);
        Due.is("14 it is of sort 2", x.part(0, 0), 2);
        Due.is("14 nothing waits", x.waiting(), 0);
        Due.is("14 the second one held", x.value(0), 3);
        // A condition that was assumed in the first one does not fail the second one.
        Tellcourt y = new Tellcourt();
        int t = told(y, 0, 0, 0);
        int assumes = y.unless(true, HAS + 1, 0, 0, t);
        y.begin(y.attempt(assumes, told(y, 3, 0, 0)), 0, 0);
        y.begin(y.attempt(told(y, 1, 0, 0), told(y, 3, 0, 0)), 0, 0);
        y.step();
        Due.holds("14 both held", !y.hasFailed() && y.tokens() == 2 && y.standing() == 2);
        // What waits in a TRY that held is dropped, and does not come in the next one.
        Tellcourt z = new Tellcourt();
        int m = told(z, 0, 0, 0), n = told(z, 1, 0, 0);
        z.begin(z.attempt(z.when(HAS, 0, 0, n), n), 0, 0);
        z.begin(z.attempt(m, n), 0, 0);
        Due.is("14 acts of the two", z.step(), 4);
        Due.is("14 only one token", z.tokens(), 1);
        // Those of a step before do not come either.
        Tellcourt w = new Tellcourt();
        int p = told(w, 0, 0, 0), q = told(w, 1, 0, 0);
        w.begin(w.when(HAS, 0, 0, q), 0, 0);
        w.begin(w.unless(true, HAS + 1, 0, 0, w.equate(0, 0)), 0, 0);
        w.step();
        w.begin(p, 0, 0);
        w.begin(q, 0, 0);
        Due.is("22 acts", w.step(), 2);
        Due.holds("22 what was assumed in a step before is free", !w.hasFailed() && w.tokens() == 2);
    }

    private static void failedTryKeepsWhatWas() {
        Tellcourt x = withVariables(3);
        int t = told(x, 0, S0, 0), pass = x.token(1, S0, 0, false), same = x.equate(S0, S1), fail = x.equate(0, 1);
        x.begin(same, F + 1, F + 2);
        x.begin(pass, F, 0);
        x.begin(same, F, 6);
        x.step();
        int all = x.both(x.both(t, x.hide(2, x.equate(S2, S1))), x.both(same, fail));
        run(x, x.attempt(all, x.equate(0, 0)), F, F + 1);
        Due.holds("14 classes of before", x.areOne(1, 2) && !x.areOne(0, 1));
        Due.holds("14 values of before", x.value(0) == 6 && x.value(1) == 100);
        Due.is("14 one that did not stand does not stand", x.part(0, 3), 0);
        Due.is("14 none stands", x.standing(), 0);
        Due.holds("14 the hidden one", x.variables() == 4 && x.value(3) == 100 && !x.areOne(3, 1));
        run(x, same, F + 3, 2);
        Due.is("14 it can be told", x.value(3), 2);
        // The copy begins with what stands, and what it tells stands after it.
        Tellcourt y = withVariables(1);
        int m = told(y, 0, S0, 0);
        run(y, m, 4, 0);
        run(y, y.attempt(y.when(HAS, 4, 0, y.both(y.equate(S1, 2), y.token(2, S1, 0, false))), m), 0, F);
        Due.holds("14 what it told", y.value(0) == 2 && y.tokens() == 2 && y.isMadeBy(1, 0));
        Due.is("14 passing tokens pass at the end of the step", y.standing(), 1);
        Tellcourt z = new Tellcourt();
        int p = z.token(2, 0, 0, false);
        z.begin(z.attempt(p, p), 0, 0);
        z.begin(z.when(HAS + 2, 0, 0, told(z, 3, 0, 0)), 0, 0);
        z.step();
        Due.holds("14 tokens are not dropped at the end of a TRY", z.tokens() == 2 && z.standing() == 1);
    }

    private static void endsSeeTheState() {
        // Draws: from 2000 the first one is even and the second one odd; from 1 both are odd.
        Tellcourt x = new Tellcourt();
        int l = x.lot(1, told(x, 0, S0, 0), 1, told(x, 1, S0, 0));
        x.begin(l, 1, 0);
        x.begin(l, 2, 0);
        Due.is("24 both lots fall alike", x.ends(), 1);
        x.seed(2000);
        Due.is("24 the lots differ", x.ends(), 2);
        Due.is("24 x is as it was", x.seed(1), 2000);
        Due.holds("24 the chance is as it was", x.chance(true) == 1 && x.chance(false) == 1);
        // What was taken of an EITHER.
        Tellcourt y = new Tellcourt();
        int e = y.either(y.when(EQUAL, S1, 0, told(y, 0, S0, 0)), 0, y.when(EQUAL, 0, 0, told(y, 1, S0, 0)), 0);
        y.begin(e, 1, 0);
        y.begin(e, 2, 0);
        Due.is("24 each takes a side", y.ends(), 2);
        Due.is("24 again", y.ends(), 2);
        y.step();
        Due.holds("24 nothing was taken by that", y.part(0, 0) == 0 && y.part(1, 0) == 1);
        run(y, e, 3, 1);
        run(y, e, 3, 1);
        y.begin(e, 1, 0);
        y.begin(e, 2, 0);
        Due.is("24 both take the first one", y.ends(), 1);
        // Definitions, variables and tokens.
        Tellcourt z = withVariables(2);
        int c = z.call(3, S0, S1), set = z.equate(S0, S1);
        z.begin(c, F, 1);
        z.begin(c, F, 2);
        Due.is("24 without a definition", z.ends(), 1);
        z.define(3, set);
        Due.is("24 with it", z.ends(), 2);
        z.begin(set, F, 3);
        Due.is("24 three, too many", z.ends(), NONE);
        Tellcourt w = withVariables(2);
        int tell = told(w, 0, S0, S1), ask = w.when(HAS, S0, 4, w.equate(S0, 1));
        run(w, tell, F, 4);
        w.begin(ask, F, 0);
        w.begin(w.equate(S0, 2), F, 0);
        Due.is("24 a token that stands", w.ends(), 2);
        Tellcourt u = withVariables(1);
        run(u, told(u, 4, 3, 3), 0, 0);
        u.begin(u.when(HAS + 4, 3, 3, u.equate(S0, 1)), F, 0);
        u.begin(u.equate(S0, 2), F, 0);
        Due.is("24 a token of its sort", u.ends(), 2);
        Tellcourt v = withVariables(3);
        v.begin(v.equate(S0, S1), F, F + 1);
        run(v, v.equate(S0, S1), F + 2, 9);
        v.begin(v.when(EQUAL, S0, S1, v.unless(true, KNOWN, S0, 0, v.equate(S0, 1))), F, F + 1);
        Due.is("24 a class, and one schedule", v.ends(), 1);
        endsSeeRules();
    }

    private static void endsSeeRules() {
        // A firing that is remembered is not repeated in ends: otherwise the value of 1 would be 7, or 8.
        Tellcourt x = withVariables(2);
        x.head(0, S0, S1, true);
        x.body(NONE, S1, 7);
        x.rule();
        int t = told(x, 0, S0, S1);
        run(x, t, F, 7);
        Due.is("24 fired", x.fired(0), 1);
        x.begin(x.equate(S0, 5), F, 0);
        x.begin(x.equate(S0, 8), F + 1, 0);
        Due.is("24 nothing is repeated", x.ends(), 1);
        Due.is("24 firings are as they were", x.fired(0), 1);
        Tellcourt y = withVariables(2);
        int m = told(y, 0, S0, S1);
        run(y, m, F, F + 1);
        y.head(0, S0, S1, true);
        y.body(NONE, S1, 7);
        y.rule();
        y.begin(y.equate(S0, 5), F, 0);
        y.begin(y.equate(S0, 8), F + 1, 0);
        Due.is("24 but fires for the first time", y.ends(), 2);
        Due.is("24 and is not counted", y.fired(0), 0);
        Due.is("24 two steps without failing", y.ends(), 2);
    }

    /** How many ends there are if a race tells one of two tokens. */
    private static int race(int sort, int a, int b, boolean lasts, int otherSort, int otherA, int otherB, boolean otherLasts) {
        Tellcourt x = withVariables(2);
        int one = x.token(sort, a, b, lasts), two = x.token(otherSort, otherA, otherB, otherLasts);
        int e = x.either(x.when(EQUAL, 0, 0, one), 0, x.when(HAS + 5, 9, 9, two), 1);
        // If the passing token comes first, the second side is the one of the greater priority.
        x.begin(e, F, F + 1);
        x.begin(x.token(5, 9, 9, false), F, F + 1);
        return x.ends();
    }

    private static void endsTellTokensApart() {
        Due.is("24 the same", race(0, 1, 1, true, 0, 1, 1, true), 1);
        Due.is("24 the same with variables", race(0, S0, S1, true, 0, S0, S1, true), 1);
        Due.is("24 by the sort", race(0, 1, 1, true, 1, 1, 1, true), 2);
        Due.is("24 by the first argument", race(0, 1, 1, true, 0, 2, 1, true), 2);
        Due.is("24 by the second argument", race(0, 1, 1, true, 0, 1, 2, true), 2);
        Due.is("24 by a negative argument", race(0, -1, 1, true, 0, 1, 1, true), 2);
        Due.is("24 by both", race(0, 2, 1, true, 0, 1, 2, true), 2);
        Due.is("24 by another variable", race(0, S0, 1, true, 0, S1, 1, true), 2);
        Due.is("24 by a variable or a value", race(0, 1, S1, true, 0, 1, 0, true), 2);
        Due.is("24 one that is there or not", race(0, -99, -99, true, 0, -99, -99, false), 2);
        Due.is("24 passing ones do not matter", race(0, 1, 1, false, 1, 2, 2, false), 1);
        // As often: twice and once, or once and twice.
        Tellcourt x = new Tellcourt();
        int a = told(x, 0, 0, 0), b = told(x, 1, 0, 0);
        int e = x.either(x.when(EQUAL, 0, 0, x.attempt(a, a)), 0, x.when(EQUAL, 0, 0, x.attempt(b, b)), 0);
        x.begin(e, 0, 0);
        Due.is("24 one side", x.ends(), 1);
        Tellcourt y = withVariables(1);
        y.head(0, S0, ANY, true);
        y.other(1, S1, ANY, false);
        y.body(2, S0, S1);
        y.rule();
        int zero = told(y, 0, S0, 0), one = told(y, 1, S0, 0);
        y.begin(zero, 1, 0);
        y.begin(zero, 2, 0);
        y.begin(one, 3, 0);
        // The one is taken by 1 or by 2, whichever is there, or the lower number.
        Due.is("24 whose partner it is", y.ends(), 2);
        // Values of all variables that there are, not of the first one alone.
        Tellcourt z = withVariables(3);
        z.begin(z.when(KNOWN, S0, 0, z.equate(S1, 1)), F, F + 2);
        z.begin(z.equate(S0, 1), F, 0);
        Due.is("24 three variables, one end", z.ends(), 1);
        Tellcourt w = withVariables(3);
        int side = w.either(w.when(EQUAL, 0, 0, w.equate(S0, 1)), 0, w.when(EQUAL, 0, 0, w.equate(S0, 2)), 0);
        w.begin(side, F + 1, 0);
        w.begin(side, F + 2, 0);
        Due.is("24 the second and the third variable", w.ends(), 2);
        // A class without a value is shown by its lowest variable.
        Tellcourt v = withVariables(3);
        int join = v.either(v.when(EQUAL, 0, 0, v.equate(S0, S1)), 0, v.when(EQUAL, 0, 0, v.equate(0, 0)), 0);
        run(v, told(v, 0, S0, S1), F + 2, 0);
        v.begin(join, F, F + 2);
        v.begin(join, F + 1, F + 2);
        Due.is("24 another class", v.ends(), 2);
    }

    private static void endsOfFailures() {
        // Both fail; the tokens that stand then differ, or do not.
        Tellcourt x = new Tellcourt();
        int fail = x.equate(0, 1);
        x.begin(fail, 0, 0);
        x.begin(fail, 0, 0);
        Due.is("24 both fail alike", x.ends(), 1);
        Tellcourt y = new Tellcourt();
        y.begin(y.equate(0, 1), 0, 0);
        y.begin(y.token(0, 0, 0, false), 0, 0);
        Due.is("24 one fails with a token, one without", y.ends(), 2);
        Tellcourt z = new Tellcourt();
        int lasting = told(z, 0, 0, 0), passing = z.token(0, 0, 0, false);
        z.begin(z.both(lasting, z.equate(0, 1)), 0, 0);
        z.begin(passing, 0, 0);
        // Both, token and failure in any order: none, one or two tokens, and one that lasts or does not.
        Due.is("24 whether they last", z.ends(), 4);
        Due.holds("24 not failed by that", !z.hasFailed());
        Due.is("24 acts", z.step(), 4);
        Due.holds("24 failed", z.hasFailed() && z.standing() == 2);
        Due.is("24 and done anew", z.standingAnew(), 2);
    }

    private static void anew() {
        Tellcourt x = new Tellcourt();
        int one = told(x, 0, S0, 0), pair = x.both(one, one), none = x.equate(0, 0);
        Due.is("34 at first", x.standingAnew(), 0);
        // Definitions as they were at the time of the step.
        x.define(0, one);
        int c = x.call(0, 1, 1);
        run(x, c, 0, 0);
        x.define(0, pair);
        Due.is("34 one", x.standingAnew(), 1);
        run(x, c, 0, 0);
        Due.is("34 three", x.standingAnew(), 3);
        x.define(0, none);
        Due.is("34 three again", x.standingAnew(), 3);
        // Seeds: from 1 the draw is odd, from 3 odd, from 2 even.
        int l = x.lot(1, pair, 1, none);
        run(x, l, 0, 0);
        Due.is("34 a draw of nothing", x.standingAnew(), 3);
        x.seed(2);
        run(x, l, 0, 0);
        Due.is("34 a draw of two", x.standingAnew(), 5);
        Due.is("34 and once more", x.standingAnew(), 5);
        // Rules as they were at the time of the step.
        x.head(0, 7, ANY, false);
        x.body(NONE, 0, 0);
        x.rule();
        run(x, one, 8, 0);
        run(x, one, 7, 0);
        Due.is("34 one more, and one that is removed", x.standingAnew(), 6);
        x.head(0, 8, ANY, false);
        x.body(NONE, 0, 0);
        x.rule();
        Due.is("34 a rule that was made since", x.standingAnew(), 6);
        run(x, one, 8, 0);
        Due.is("34 does away with the next", x.standingAnew(), 6);
        Due.is("34 standing", x.standing(), 6);
        Due.holds("34 nothing was counted by that", x.fired(0) == 1 && x.fired(1) == 1 && x.tokens() == 8);
    }

    private static void anewAgain() {
        // Sides, firings that are remembered, variables and classes begin from nothing each time.
        Tellcourt x = withVariables(2);
        int two = x.both(told(x, 0, S0, S1), told(x, 1, S0, S1)), none = x.equate(0, 0);
        int e = x.either(x.when(EQUAL, 0, 0, two), 0, x.when(EQUAL, 0, 0, none), 0);
        x.head(0, S0, S1, true);
        x.body(2, S0, S1);
        x.rule();
        run(x, e, F, F + 1);
        Due.is("34 three by the first side", x.standing(), 3);
        for (int i = 0; i < 3; i++) {
            Due.is("34 three each time", x.standingAnew(), 3);
        }
        run(x, x.hide(2, x.both(x.equate(S0, S2), x.when(KNOWN, S0, 0, two))), F, F + 1);
        int late = x.variable();
        Due.is("34 the number of a late variable", late, 3);
        x.begin(x.equate(S0, S1), F + late, F);
        x.begin(x.equate(S0, 4), F + late, 0);
        x.begin(x.when(KNOWN, S0, 0, two), F + 2, 9);
        x.step();
        Due.is("34 six", x.standing(), 6);
        Due.is("34 six anew", x.standingAnew(), 6);
        // Behind schedules, among them some that fail, and some that wait.
        x.begin(x.equate(S0, 5), F, 0);
        x.begin(x.when(UNLIKE, S0, 4, two), F, 0);
        Due.is("34 fails in every schedule", x.ends(), 1);
        Due.is("34 behind schedules", x.standingAnew(), 6);
        Due.is("34 waiting", x.waiting(), 2);
        Due.is("34 ends behind it", x.ends(), 1);
        x.step();
        Due.holds("34 failed", x.hasFailed());
        Due.is("34 of a failed one", x.standingAnew(), 6);
        Tellcourt y = new Tellcourt();
        int loop = y.call(0, 0, 0);
        y.define(0, y.both(y.token(0, 0, 0, false), loop));
        run(y, loop, 0, 0);
        Due.holds("34 a step without an end", y.hasFailed() && y.standing() == 20);
        Due.is("34 done anew", y.standingAnew(), 20);
        Due.is("34 and once more", y.standingAnew(), 20);
    }

    private static void anewOfLimits() {
        // The same seed, the same draws, with the chance of the run untouched by doing it anew.
        Tellcourt x = new Tellcourt();
        int a = told(x, 0, 0, 0), b = x.both(a, a), l = x.lot(1, a, 2, b);
        for (int i = 0; i < 20; i++) {
            run(x, l, 0, 0);
            Due.is("34 after " + i, x.standingAnew(), x.standing());
        }
        int above = x.chance(true), below = x.chance(false), seed = x.seed(7);
        x.standingAnew();
        Due.holds("37 the chance stays", x.chance(true) == above && x.chance(false) == below);
        Due.is("23 x stays", x.seed(seed), 7);
        // All 30 steps, with 3 agents begun for each, and one that comes again by itself.
        Tellcourt y = new Tellcourt();
        int pass = y.token(0, S0, 0, false), keep = told(y, 1, S0, 0);
        y.begin(y.each(keep), 0, 0);
        for (int step = 1; step <= 30; step++) {
            y.begin(pass, step, 0);
            y.begin(step % 2 == 0 ? keep : pass, step, 0);
            Due.is("34 acts", y.step(), 4);
            Due.is("34 at the step " + step, y.standingAnew(), step + step / 2);
        }
        Due.holds("34 nothing failed", !y.hasFailed());
        // 512 calls, most of them kept for doing the steps anew.
        Tellcourt z = new Tellcourt();
        int say = told(z, 0, 0, 0);
        z.define(0, say);
        int c = z.call(0, 0, 0), none = z.equate(0, 0);
        for (int call = 4; call < 500; call += 2) {
            z.seed(call);
            z.define(0, call % 4 == 0 ? none : say);
        }
        run(z, c, 0, 0);
        z.seed(1);
        z.define(0, none);
        Due.is("34 the last definition but one", z.standingAnew(), 1);
        z.begin(c, 0, 0);
        z.step();
        Due.is("34 and the last", z.standingAnew(), 1);
    }
}
