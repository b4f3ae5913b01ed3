/** What the tests begin with: objects in the states that they need, and the constants by short names. */
abstract class Scenes {
    static final int S0 = 200, S1 = 201, S2 = 202, S3 = 203;
    static final int F = Tellcourt.FREE, ANY = Tellcourt.ANY, NONE = Tellcourt.NONE;
    static final int EQUAL = Tellcourt.EQUAL, UNLIKE = Tellcourt.UNLIKE, LESS = Tellcourt.LESS;
    static final int KNOWN = Tellcourt.KNOWN, HAS = Tellcourt.HAS;

    static Tellcourt withVariables(int many) {
        Tellcourt x = new Tellcourt();
        for (int i = 0; i < many; i++) {
            x.variable();
        }
        return x;
    }

    /** Begins the node with these slots and does a step; answers the acts. */
    static int run(Tellcourt x, int node, int a, int b) {
        x.begin(node, a, b);
        return x.step();
    }

    /** Begins the node so often, at most 30 times a step, and does the steps. */
    static void runOften(Tellcourt x, int node, int many) {
        for (int left = many; left > 0; left -= 30) {
            for (int i = 0; i < Math.min(left, 30); i++) {
                x.begin(node, 0, 0);
            }
            x.step();
        }
    }

    static int told(Tellcourt x, int sort, int a, int b) {
        return x.token(sort, a, b, true);
    }

    /** An EQUATE of 0 and 1: a step that does it fails. */
    static int failing(Tellcourt x) {
        return x.equate(0, 1);
    }

    static Tellcourt failed() {
        Tellcourt x = withVariables(1);
        run(x, failing(x), 0, 0);
        return x;
    }

    static int chain(Tellcourt x, int... nodes) {
        int all = nodes[nodes.length - 1];
        for (int i = nodes.length - 2; i >= 0; i--) {
            all = x.both(nodes[i], all);
        }
        return all;
    }

    static void tokenIs(String what, Tellcourt x, int token, int... due) {
        for (int part = 0; part < due.length; part++) {
            Due.is(what + ", part " + part + " of token " + token, x.part(token, part), due[part]);
        }
    }
}
