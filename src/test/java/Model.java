import java.math.BigInteger;
import java.util.ArrayList;
import java.util.Collections;
import java.util.HashMap;
import java.util.HashSet;
import java.util.List;
import java.util.Map;
import java.util.Set;
import java.util.TreeSet;

/**
 * The document once more, by recursion and whole copies, to be compared with Tellcourt.
 * It shares no code with it on purpose, and takes no care of speed.
 */
final class Model {
    static final int NONE = -1, ANY = 300, SLOT = 200, FREE = 400, HAS = 10, KNOWN = 3;

    static final class Failed extends RuntimeException {
        private static final long serialVersionUID = 1L;

        Failed() {
            super("failed", null, false, false);
        }
    }

    record Node(String kind, int what, int a, int b, int one, int other, boolean flag) { }

    record Agent(int node, List<Integer> frame, Set<Integer> slice) { }

    record Head(int sort, int a, int b, boolean stays) { }

    record Body(int sort, int a, int b) { }

    static final class Law {
        List<Head> heads = new ArrayList<>();
        int[] guard;
        List<Body> bodies = new ArrayList<>();

        Set<Integer> bound() {
            Set<Integer> all = new HashSet<>();
            for (Head h : heads) {
                all.add(h.a);
                all.add(h.b);
            }
            return all;
        }
    }

    static final class Tok {
        int sort, a, b;
        boolean lasts, stands;
        Set<Integer> slice;

        Tok copy() {
            Tok t = new Tok();
            t.sort = sort;
            t.a = a;
            t.b = b;
            t.lasts = lasts;
            t.stands = stands;
            t.slice = new TreeSet<>(slice);
            return t;
        }
    }

    /** What a TRY copies. */
    static final class Shop {
        List<TreeSet<Integer>> classes = new ArrayList<>();
        Map<Integer, Integer> values = new HashMap<>();
        List<Tok> toks = new ArrayList<>();
        Set<List<Integer>> repeated = new HashSet<>();
        int variables;

        Shop copy() {
            Shop s = new Shop();
            for (TreeSet<Integer> c : classes) {
                s.classes.add(new TreeSet<>(c));
            }
            s.values.putAll(values);
            for (Tok t : toks) {
                s.toks.add(t.copy());
            }
            s.repeated.addAll(repeated);
            s.variables = variables;
            return s;
        }

        TreeSet<Integer> classOf(int variable) {
            for (TreeSet<Integer> c : classes) {
                if (c.contains(variable)) {
                    return c;
                }
            }
            throw new AssertionError();
        }
    }

    /** A queue with those that wait: the step's, or that of a TRY. */
    static final class Room {
        List<Agent> queue = new ArrayList<>();
        List<Agent> waits = new ArrayList<>();
        List<Agent> assumed = new ArrayList<>();
        List<Agent> next = new ArrayList<>();
        int inside;
    }

    List<Node> nodes = new ArrayList<>();
    List<Law> laws = new ArrayList<>();
    Law draft;
    int[] definitions = {NONE, NONE, NONE, NONE, NONE, NONE};
    Shop shop = new Shop();
    boolean failed;
    List<Agent> forNext = new ArrayList<>();
    int acts, clock, steps;
    int x = 1;
    BigInteger above = BigInteger.ONE, below = BigInteger.ONE;
    Map<List<Integer>, Integer> taken = new HashMap<>();
    Map<Integer, Integer> firings = new HashMap<>();
    List<Integer> plan = new ArrayList<>();
    List<Integer> widths = new ArrayList<>();

    Model copy() {
        Model m = new Model();
        m.nodes = nodes;
        m.laws = laws;
        m.definitions = definitions.clone();
        m.shop = shop.copy();
        m.failed = failed;
        m.forNext.addAll(forNext);
        m.clock = clock;
        m.steps = steps;
        m.x = x;
        m.above = above;
        m.below = below;
        m.taken.putAll(taken);
        m.firings.putAll(firings);
        return m;
    }

    // ---- the store

    static boolean isValue(int t) {
        return -99 <= t && t <= 99;
    }

    static boolean isTerm(int t) {
        return isValue(t) || 200 <= t && t <= 203;
    }

    Integer known(int t) {
        return isValue(t) ? (Integer) t : shop.values.get(shop.classOf(t - FREE).first());
    }

    boolean same(int a, int b) {
        Integer va = known(a), vb = known(b);
        if (va != null && vb != null && va.equals(vb)) {
            return true;
        }
        return !isValue(a) && !isValue(b) && shop.classOf(a - FREE) == shop.classOf(b - FREE);
    }

    List<Integer> holders(int sort, int a, int b) {
        List<Integer> all = new ArrayList<>();
        for (int i = 0; i < shop.toks.size(); i++) {
            Tok t = shop.toks.get(i);
            if (t.stands && t.sort == sort && same(t.a, a) && same(t.b, b)) {
                all.add(i);
            }
        }
        return all;
    }

    boolean entailed(int condition, int a, int b) {
        if (condition >= HAS) {
            return !holders(condition - HAS, a, b).isEmpty();
        }
        Integer va = known(a), vb = known(b);
        return switch (condition) {
            case 0 -> same(a, b);
            case 1 -> va != null && vb != null && !va.equals(vb);
            case 2 -> va != null && vb != null && va < vb;
            default -> throw new AssertionError("KNOWN is asked of one term alone");
        };
    }

    int newVariable() {
        if (shop.variables == 60) {
            throw new Failed();
        }
        TreeSet<Integer> own = new TreeSet<>();
        own.add(shop.variables);
        shop.classes.add(own);
        return shop.variables++;
    }

    void tellEqual(int a, int b) {
        Integer va = known(a), vb = known(b);
        if (va != null && vb != null && !va.equals(vb)) {
            throw new Failed();
        }
        Integer value = va != null ? va : vb;
        TreeSet<Integer> changed;
        if (isValue(a) && isValue(b)) {
            return;
        } else if (isValue(a) || isValue(b)) {
            changed = shop.classOf((isValue(a) ? b : a) - FREE);
            if (shop.values.containsKey(changed.first())) {
                return;
            }
        } else {
            TreeSet<Integer> other = shop.classOf(b - FREE);
            changed = shop.classOf(a - FREE);
            if (changed == other) {
                return;
            }
            shop.values.remove(changed.first());
            shop.values.remove(other.first());
            shop.classes.remove(other);
            changed.addAll(other);
        }
        if (value != null) {
            shop.values.put(changed.first(), value);
        }
        List<Integer> again = new ArrayList<>();
        for (int i = 0; i < shop.toks.size(); i++) {
            Tok t = shop.toks.get(i);
            if (t.stands && (!isValue(t.a) && changed.contains(t.a - FREE) || !isValue(t.b) && changed.contains(t.b - FREE))) {
                again.add(i);
            }
        }
        for (int i : again) {
            if (shop.toks.get(i).stands) {
                activate(i);
            }
        }
    }

    void tellToken(int sort, int a, int b, boolean lasts, Set<Integer> slice) {
        if (shop.toks.size() == 100) {
            throw new Failed();
        }
        Tok t = new Tok();
        t.sort = sort;
        t.a = a;
        t.b = b;
        t.lasts = lasts;
        t.stands = true;
        t.slice = new TreeSet<>(slice);
        shop.toks.add(t);
        activate(shop.toks.size() - 1);
    }

    void countAct() {
        if (acts == 60) {
            throw new Failed();
        }
        acts++;
    }

    // ---- rules

    void activate(int active) {
        for (int r = 0; r < laws.size(); r++) {
            Law law = laws.get(r);
            for (int h = 0; h < law.heads.size(); h++) {
                if (law.heads.size() == 1) {
                    if (shop.toks.get(active).stands) {
                        offer(r, List.of(active));
                    }
                    continue;
                }
                for (int o = 0; o < shop.toks.size() && shop.toks.get(active).stands; o++) {
                    if (o != active && shop.toks.get(o).stands) {
                        offer(r, h == 0 ? List.of(active, o) : List.of(o, active));
                    }
                }
            }
        }
    }

    boolean allows(int condition, int a, int b, Map<Integer, Integer> binds) {
        return condition == KNOWN ? known(bound(a, binds)) != null : entailed(condition, bound(a, binds), bound(b, binds));
    }

    void offer(int r, List<Integer> as) {
        Law law = laws.get(r);
        Map<Integer, Integer> binds = new HashMap<>();
        for (int h = 0; h < as.size(); h++) {
            Tok t = shop.toks.get(as.get(h));
            Head head = law.heads.get(h);
            if (t.sort != head.sort || !fits(head.a, t.a, binds) || !fits(head.b, t.b, binds)) {
                return;
            }
        }
        if (law.guard != null && !allows(law.guard[0], law.guard[1], law.guard[2], binds)) {
            return;
        }
        boolean removes = law.heads.stream().anyMatch(h -> !h.stays);
        List<Integer> key = new ArrayList<>(as);
        key.add(0, r);
        if (!removes && shop.repeated.contains(key)) {
            return;
        }
        countAct();
        firings.merge(r, 1, Integer::sum);
        shop.repeated.add(key);
        Set<Integer> slice = new TreeSet<>(as);
        boolean lasts = true;
        for (int h = 0; h < as.size(); h++) {
            Tok t = shop.toks.get(as.get(h));
            slice.addAll(t.slice);
            lasts &= t.lasts;
            if (!law.heads.get(h).stays) {
                t.stands = false;
            }
        }
        for (Body body : law.bodies) {
            if (body.sort == NONE) {
                tellEqual(bound(body.a, binds), bound(body.b, binds));
            } else {
                tellToken(body.sort, bound(body.a, binds), bound(body.b, binds), lasts, slice);
            }
        }
    }

    boolean fits(int pattern, int argument, Map<Integer, Integer> binds) {
        if (pattern == ANY) {
            return true;
        }
        if (!isValue(pattern) && binds.putIfAbsent(pattern, argument) == null) {
            return true;
        }
        return same(bound(pattern, binds), argument);
    }

    static int bound(int term, Map<Integer, Integer> binds) {
        return isValue(term) ? term : binds.getOrDefault(term, 0);
    }

    // ---- agents

    int look(Agent g, int term) {
        return isValue(term) ? term : g.frame.get(term - SLOT);
    }

    boolean holds(Agent g, int node) {
        Node n = nodes.get(node);
        return n.what == KNOWN ? known(look(g, n.a)) != null : entailed(n.what, look(g, n.a), look(g, n.b));
    }

    static Agent with(Agent g, int node) {
        return new Agent(node, g.frame, g.slice);
    }

    int pick(Agent g) {
        Node n = nodes.get(g.node);
        if (n.kind.equals("when")) {
            return holds(g, g.node) ? 0 : NONE;
        }
        boolean first = holds(g, n.one), second = holds(g, n.other);
        if (!first && !second) {
            return NONE;
        }
        if (first != second) {
            return first ? 0 : 1;
        }
        if (n.a != n.b) {
            return n.a > n.b ? 0 : 1;
        }
        int t0 = taken.getOrDefault(List.of(g.node, 0), 0), t1 = taken.getOrDefault(List.of(g.node, 1), 0);
        return t1 < t0 ? 1 : 0;
    }

    void ask(Agent g, Room room) {
        Node n = nodes.get(g.node);
        int side = pick(g);
        if (side == NONE) {
            room.waits.add(g);
            return;
        }
        if (n.kind.equals("either")) {
            taken.merge(List.of(g.node, side), 1, Integer::sum);
            n = nodes.get(side == 0 ? n.one : n.other);
        }
        Set<Integer> slice = new TreeSet<>(g.slice);
        if (n.what >= HAS) {
            int t = holders(n.what - HAS, look(g, n.a), look(g, n.b)).get(0);
            slice.add(t);
            slice.addAll(shop.toks.get(t).slice);
        }
        room.queue.add(new Agent(n.one, g.frame, slice));
    }

    void act(Agent g, Room room) {
        countAct();
        Node n = nodes.get(g.node);
        switch (n.kind) {
            case "equate" -> tellEqual(look(g, n.a), look(g, n.b));
            case "token" -> tellToken(n.what, look(g, n.a), look(g, n.b), n.flag, g.slice);
            case "both" -> {
                room.queue.add(with(g, n.one));
                room.queue.add(with(g, n.other));
            }
            case "when", "either" -> ask(g, room);
            case "hide" -> {
                List<Integer> frame = new ArrayList<>(g.frame);
                frame.set(n.what, FREE + newVariable());
                room.queue.add(new Agent(n.one, frame, g.slice));
            }
            case "call" -> {
                if (definitions[n.what] != NONE) {
                    room.queue.add(new Agent(definitions[n.what], List.of(look(g, n.a), look(g, n.b), 0, 0), g.slice));
                }
            }
            case "next" -> room.next.add(with(g, n.one));
            case "each" -> {
                room.queue.add(with(g, n.one));
                room.next.add(g);
            }
            case "lot" -> {
                x = (int) ((x * 75L + 74) % 65537);
                boolean first = x % (n.a + n.b) < n.a;
                above = above.multiply(BigInteger.valueOf(first ? n.a : n.b));
                below = below.multiply(BigInteger.valueOf(n.a + n.b));
                room.queue.add(with(g, first ? n.one : n.other));
            }
            case "attempt" -> attempt(g, n, room);
            default -> room.waits.add(g);
        }
    }

    void attempt(Agent g, Node n, Room room) {
        if (room.inside == 3) {
            room.queue.add(with(g, n.other));
            return;
        }
        Shop before = shop;
        shop = before.copy();
        Room inner = new Room();
        inner.inside = room.inside + 1;
        inner.queue.add(with(g, n.one));
        try {
            runToEnd(inner);
            room.next.addAll(inner.next);
        } catch (Failed f) {
            Shop tried = shop;
            shop = before;
            for (int v = shop.variables; v < tried.variables; v++) {
                newVariable();
            }
            for (int t = shop.toks.size(); t < tried.toks.size(); t++) {
                Tok kept = tried.toks.get(t);
                kept.stands = false;
                shop.toks.add(kept);
            }
            room.queue.add(with(g, n.other));
        }
    }

    void runToEnd(Room room) {
        while (true) {
            if (!room.queue.isEmpty()) {
                act(room.queue.remove(room.inside == 0 ? chosen(room.queue.size()) : 0), room);
                continue;
            }
            List<Agent> stay = new ArrayList<>();
            for (Agent g : room.waits) {
                boolean asks = nodes.get(g.node).kind.matches("when|either");
                (asks && pick(g) != NONE ? room.queue : stay).add(g);
            }
            room.waits = stay;
            if (!room.queue.isEmpty()) {
                continue;
            }
            Agent supposed = null;
            for (Agent g : room.waits) {
                if (supposed == null && nodes.get(g.node).kind.equals("default") && !holds(g, g.node)) {
                    supposed = g;
                }
            }
            if (supposed == null) {
                break;
            }
            Agent gone = supposed;
            room.waits.removeIf(g -> g == gone);
            room.assumed.add(supposed);
            room.queue.add(with(supposed, nodes.get(supposed.node).one));
        }
        for (Agent g : room.assumed) {
            if (holds(g, g.node)) {
                throw new Failed();
            }
        }
        for (Agent g : room.waits) {
            if (nodes.get(g.node).kind.equals("unless") && !holds(g, g.node)) {
                room.next.add(with(g, nodes.get(g.node).one));
            }
        }
    }

    int chosen(int many) {
        int at = widths.size();
        widths.add(many);
        return at < plan.size() ? plan.get(at) : 0;
    }

    // ---- the face

    private int node(String kind, int what, int a, int b, int one, int other, boolean flag) {
        if (nodes.size() == 60) {
            throw new IllegalStateException();
        }
        nodes.add(new Node(kind, what, a, b, one, other, flag));
        return nodes.size() - 1;
    }

    private void place(boolean ok) {
        if (!ok) {
            throw new IndexOutOfBoundsException();
        }
    }

    private void range(boolean ok) {
        if (!ok) {
            throw new IllegalArgumentException();
        }
    }

    private void state(boolean ok) {
        if (!ok) {
            throw new IllegalStateException();
        }
    }

    private boolean isNode(int n) {
        return 0 <= n && n < nodes.size();
    }

    private static boolean isSort(int s) {
        return 0 <= s && s <= 5;
    }

    private static boolean isCondition(int c) {
        return 0 <= c && c <= 3 || 10 <= c && c <= 15;
    }

    int variable() {
        state(shop.variables < 60 && !failed);
        return newVariable();
    }

    int equate(int a, int b) {
        range(isTerm(a) && isTerm(b));
        return node("equate", 0, a, b, 0, 0, false);
    }

    int token(int sort, int a, int b, boolean lasts) {
        range(isSort(sort) && isTerm(a) && isTerm(b));
        return node("token", sort, a, b, 0, 0, lasts);
    }

    int both(int one, int other) {
        place(isNode(one) && isNode(other));
        return node("both", 0, 0, 0, one, other, false);
    }

    int when(int condition, int a, int b, int n) {
        place(isNode(n));
        range(isCondition(condition) && isTerm(a) && (condition == KNOWN || isTerm(b)));
        return node("when", condition, a, b, n, 0, false);
    }

    int either(int one, int first, int other, int last) {
        place(isNode(one) && isNode(other));
        range(nodes.get(one).kind.equals("when") && nodes.get(other).kind.equals("when"));
        range(0 <= first && first <= 9 && 0 <= last && last <= 9);
        return node("either", 0, first, last, one, other, false);
    }

    int hide(int slot, int n) {
        place(isNode(n));
        range(0 <= slot && slot <= 3);
        return node("hide", slot, 0, 0, n, 0, false);
    }

    int call(int definition, int a, int b) {
        place(0 <= definition && definition <= 5);
        range(isTerm(a) && isTerm(b));
        return node("call", definition, a, b, 0, 0, false);
    }

    int next(int n) {
        place(isNode(n));
        return node("next", 0, 0, 0, n, 0, false);
    }

    int each(int n) {
        place(isNode(n));
        return node("each", 0, 0, 0, n, 0, false);
    }

    int unless(boolean isDefault, int condition, int a, int b, int n) {
        place(isNode(n));
        range(isCondition(condition) && isTerm(a) && (condition == KNOWN || isTerm(b)));
        return node(isDefault ? "default" : "unless", condition, a, b, n, 0, false);
    }

    int lot(int weight, int one, int more, int other) {
        place(isNode(one) && isNode(other));
        range(1 <= weight && weight <= 9 && 1 <= more && more <= 9);
        return node("lot", 0, weight, more, one, other, false);
    }

    int attempt(int n, int other) {
        place(isNode(n) && isNode(other));
        return node("attempt", 0, 0, 0, n, other, false);
    }

    int define(int definition, int n) {
        place(0 <= definition && definition <= 5 && isNode(n));
        int before = definitions[definition];
        definitions[definition] = n;
        return before;
    }

    boolean head(int sort, int a, int b, boolean stays) {
        range(isSort(sort) && (a == ANY || isTerm(a)) && (b == ANY || isTerm(b)));
        boolean was = draft != null;
        draft = new Law();
        draft.heads.add(new Head(sort, a, b, stays));
        return was;
    }

    int other(int sort, int a, int b, boolean stays) {
        range(isSort(sort) && (a == ANY || isTerm(a)) && (b == ANY || isTerm(b)));
        state(draft != null && draft.heads.size() == 1 && draft.guard == null && draft.bodies.isEmpty());
        draft.heads.add(new Head(sort, a, b, stays));
        return 2;
    }

    private boolean isLawTerm(int t) {
        return isValue(t) || t != ANY && draft != null && draft.bound().contains(t);
    }

    boolean guard(int condition, int a, int b) {
        range(isCondition(condition) && isLawTerm(a) && (condition == KNOWN || isLawTerm(b)));
        state(draft != null && draft.guard == null && draft.bodies.isEmpty());
        draft.guard = new int[] {condition, a, b};
        return true;
    }

    int body(int sort, int a, int b) {
        range((sort == NONE || isSort(sort)) && isLawTerm(a) && isLawTerm(b));
        state(draft != null && draft.bodies.size() < 2);
        draft.bodies.add(new Body(sort, a, b));
        return draft.bodies.size();
    }

    int rule() {
        state(draft != null && !draft.bodies.isEmpty() && laws.size() < 8);
        laws.add(draft);
        draft = null;
        return laws.size() - 1;
    }

    int begin(int n, int a, int b) {
        place(isNode(n) && (a < FREE || a - FREE < shop.variables) && (b < FREE || b - FREE < shop.variables));
        range((isValue(a) || a >= FREE) && (isValue(b) || b >= FREE));
        state(!failed && forNext.size() < 30);
        forNext.add(new Agent(n, List.of(a, b, 0, 0), new TreeSet<>()));
        return forNext.size();
    }

    int step() {
        state(!failed && steps < 30);
        steps++;
        return doStep();
    }

    private int doStep() {
        acts = 0;
        Room room = new Room();
        room.queue.addAll(forNext);
        try {
            runToEnd(room);
            for (Tok t : shop.toks) {
                t.stands &= t.lasts;
            }
            clock++;
        } catch (Failed f) {
            failed = true;
        }
        forNext = room.next;
        return acts;
    }

    int seed(int seed) {
        range(0 <= seed && seed <= 65536);
        int before = x;
        x = seed;
        return before;
    }

    int ends() {
        state(!failed);
        Set<List<Object>> found = new HashSet<>();
        List<Integer> way = new ArrayList<>();
        for (int tried = 0; way != null; tried++) {
            if (tried == 8) {
                return NONE;
            }
            Model m = copy();
            m.plan = way;
            m.doStep();
            found.add(m.signature(shop.variables));
            List<Integer> full = new ArrayList<>(way);
            while (full.size() < m.widths.size()) {
                full.add(0);
            }
            way = null;
            for (int i = full.size() - 1; i >= 0 && way == null; i--) {
                if (full.get(i) + 1 < m.widths.get(i)) {
                    way = new ArrayList<>(full.subList(0, i));
                    way.add(full.get(i) + 1);
                }
            }
        }
        return found.size();
    }

    private List<Object> signature(int many) {
        List<Object> all = new ArrayList<>();
        all.add(failed);
        for (int v = 0; v < many; v++) {
            all.add(value(v));
        }
        List<String> standing = new ArrayList<>();
        for (int t = 0; t < tokens(); t++) {
            if (part(t, 3) == 1) {
                standing.add(part(t, 0) + " " + part(t, 1) + " " + part(t, 2) + " " + part(t, 4));
            }
        }
        Collections.sort(standing);
        all.add(standing);
        return all;
    }

    int clock() {
        return clock;
    }

    boolean hasFailed() {
        return failed;
    }

    int variables() {
        return shop.variables;
    }

    int value(int v) {
        place(0 <= v && v < shop.variables);
        Integer value = known(FREE + v);
        return value == null ? 100 : value;
    }

    boolean areOne(int v, int w) {
        place(0 <= v && v < shop.variables && 0 <= w && w < shop.variables);
        return shop.classOf(v) == shop.classOf(w);
    }

    int tokens() {
        return shop.toks.size();
    }

    int part(int token, int part) {
        place(0 <= token && token < tokens());
        range(0 <= part && part <= 4);
        Tok t = shop.toks.get(token);
        return switch (part) {
            case 0 -> t.sort;
            case 1 -> shown(t.a);
            case 2 -> shown(t.b);
            case 3 -> t.stands ? 1 : 0;
            default -> t.lasts ? 1 : 0;
        };
    }

    private int shown(int argument) {
        Integer value = known(argument);
        return value != null ? value : FREE + shop.classOf(argument - FREE).first();
    }

    boolean isMadeBy(int token, int other) {
        place(0 <= token && token < tokens() && 0 <= other && other < tokens());
        return shop.toks.get(token).slice.contains(other);
    }

    int standing() {
        int n = 0;
        for (Tok t : shop.toks) {
            n += t.stands ? 1 : 0;
        }
        return n;
    }

    int standingAnew() {
        return standing();
    }

    int waiting() {
        return forNext.size();
    }

    int fired(int rule) {
        place(0 <= rule && rule < laws.size());
        return firings.getOrDefault(rule, 0);
    }

    int chance(boolean isAbove) {
        BigInteger d = above.gcd(below);
        return (isAbove ? above : below).divide(d).mod(BigInteger.valueOf(1000003)).intValue();
    }
}
