import java.util.Arrays;

/** Agents that tell and ask a shared store of equal variables and of tokens, which rules rewrite. */
public final class Tellcourt {
    public static final int NONE = -1;
    public static final int ANY = 300;
    public static final int SLOT = 200, FREE = 400;
    public static final int EQUAL = 0, UNLIKE = 1, LESS = 2, KNOWN = 3, HAS = 10;

    private static final int MAX_VARIABLES = 60;
    private static final int MAX_TOKENS = 100;
    private static final int MAX_NODES = 60;
    private static final int MAX_RULES = 8;
    private static final int MAX_ACTS = 60;
    private static final int MAX_STEPS = 30;
    private static final int MAX_BEGUN = 30;
    private static final int MAX_TRIES = 3;
    private static final int MAX_SCHEDULES = 8;
    private static final int MAX_CALLS = 512;
    private static final int MAX_VALUE = 99;
    private static final int NO_VALUE = 100;
    private static final int MAX_PRIORITY = 9;
    private static final int MAX_WEIGHT = 9;
    private static final int MODULUS = 65537;
    private static final int SORTS = 6;
    private static final int SLOTS = 4;
    private static final int DEFINITIONS = 6;

    // What the journal keeps of a call: its kind and up to three arguments.
    private static final int MADE_VARIABLE = 0, DEFINED = 1, MADE_RULE = 2, BEGUN = 3, STEPPED = 4, SEEDED = 5;
    private static final int ENTRY = 4;

    private final Nodes nodes = new Nodes();
    // One row more than there may be rules: the rule that is begun stands in the row behind those made.
    private final Rule[] rules = new Rule[MAX_RULES + 1];
    private final World world;
    private final World scratch;
    private final Survey survey = new Survey();
    private final int[] journal = new int[ENTRY * MAX_CALLS];
    private int entries;
    private boolean isRuleBegun;

    public Tellcourt() {
        for (int i = 0; i < rules.length; i++) {
            rules[i] = new Rule();
        }
        world = new World(nodes, rules);
        scratch = new World(nodes, rules);
    }

    public int variable() throws IllegalStateException {
        Store store = world.store;
        if (store.variables >= MAX_VARIABLES || store.hasFailed) {
            throw new IllegalStateException("no variable can be made");
        }
        note(MADE_VARIABLE, 0, 0, 0);
        return store.makeVariable();
    }

    // ---- nodes

    public int equate(int a, int b) throws IllegalArgumentException, IllegalStateException {
        needTerms(a, b);
        needRoom();
        return nodes.add(Nodes.EQUATE, 0, a, b, NONE, NONE);
    }

    public int token(int sort, int a, int b, boolean lasts) throws IllegalArgumentException, IllegalStateException {
        needSort(sort);
        needTerms(a, b);
        needRoom();
        return nodes.add(lasts ? Nodes.LASTING : Nodes.TOKEN, sort, a, b, NONE, NONE);
    }

    public int both(int one, int other) throws IndexOutOfBoundsException, IllegalStateException {
        needNode(one);
        needNode(other);
        needRoom();
        return nodes.add(Nodes.BOTH, 0, 0, 0, one, other);
    }

    public int when(int condition, int a, int b, int node)
            throws IndexOutOfBoundsException, IllegalArgumentException, IllegalStateException {
        needNode(node);
        needCondition(condition);
        int right = asked(condition, b);
        needTerms(a, right);
        needRoom();
        return nodes.add(Nodes.WHEN, condition, a, right, node, NONE);
    }

    public int either(int one, int first, int other, int last)
            throws IndexOutOfBoundsException, IllegalArgumentException, IllegalStateException {
        needNode(one);
        needNode(other);
        if (nodes.kind[one] != Nodes.WHEN || nodes.kind[other] != Nodes.WHEN) {
            throw new IllegalArgumentException("a node is no WHEN");
        }
        needWithin(first, 0, MAX_PRIORITY);
        needWithin(last, 0, MAX_PRIORITY);
        needRoom();
        return nodes.add(Nodes.EITHER, 0, first, last, one, other);
    }

    public int hide(int slot, int node)
            throws IndexOutOfBoundsException, IllegalArgumentException, IllegalStateException {
        needNode(node);
        needWithin(slot, 0, SLOTS - 1);
        needRoom();
        return nodes.add(Nodes.HIDE, slot, 0, 0, node, NONE);
    }

    public int call(int definition, int a, int b)
            throws IndexOutOfBoundsException, IllegalArgumentException, IllegalStateException {
        needDefinition(definition);
        needTerms(a, b);
        needRoom();
        return nodes.add(Nodes.CALL, definition, a, b, NONE, NONE);
    }

    public int next(int node) throws IndexOutOfBoundsException, IllegalStateException {
        needNode(node);
        needRoom();
        return nodes.add(Nodes.NEXT, 0, 0, 0, node, NONE);
    }

    public int each(int node) throws IndexOutOfBoundsException, IllegalStateException {
        needNode(node);
        needRoom();
        return nodes.add(Nodes.EACH, 0, 0, 0, node, NONE);
    }

    public int unless(boolean isDefault, int condition, int a, int b, int node)
            throws IndexOutOfBoundsException, IllegalArgumentException, IllegalStateException {
        needNode(node);
        needCondition(condition);
        int right = asked(condition, b);
        needTerms(a, right);
        needRoom();
        return nodes.add(isDefault ? Nodes.DEFAULT : Nodes.UNLESS, condition, a, right, node, NONE);
    }

    public int lot(int weight, int one, int more, int other)
            throws IndexOutOfBoundsException, IllegalArgumentException, IllegalStateException {
        needNode(one);
        needNode(other);
        needWithin(weight, 1, MAX_WEIGHT);
        needWithin(more, 1, MAX_WEIGHT);
        needRoom();
        return nodes.add(Nodes.LOT, 0, weight, more, one, other);
    }

    public int attempt(int node, int other) throws IndexOutOfBoundsException, IllegalStateException {
        needNode(node);
        needNode(other);
        needRoom();
        return nodes.add(Nodes.TRY, 0, 0, 0, node, other);
    }

    public int define(int definition, int node) throws IndexOutOfBoundsException {
        needDefinition(definition);
        needNode(node);
        note(DEFINED, definition, node, 0);
        int before = world.definitions[definition];
        world.definitions[definition] = node;
        return before;
    }

    // ---- rules

    public boolean head(int sort, int a, int b, boolean stays) throws IllegalArgumentException {
        needSort(sort);
        needPatterns(a, b);
        boolean wasBegun = isRuleBegun;
        Rule begun = begunRule();
        begun.clear();
        begun.addHead(sort, a, b, stays);
        isRuleBegun = true;
        return wasBegun;
    }

    public int other(int sort, int a, int b, boolean stays) throws IllegalArgumentException, IllegalStateException {
        needSort(sort);
        needPatterns(a, b);
        Rule begun = begunRule();
        if (!isRuleBegun || begun.heads >= 2 || begun.isGuarded || begun.bodies > 0) {
            throw new IllegalStateException("no second head can be given");
        }
        return begun.addHead(sort, a, b, stays);
    }

    public boolean guard(int condition, int a, int b) throws IllegalArgumentException, IllegalStateException {
        needCondition(condition);
        int right = asked(condition, b);
        needRuleTerms(a, right);
        Rule begun = begunRule();
        if (!isRuleBegun || begun.isGuarded || begun.bodies > 0) {
            throw new IllegalStateException("no guard can be given");
        }
        begun.addGuard(condition, a, right);
        return true;
    }

    public int body(int sort, int a, int b) throws IllegalArgumentException, IllegalStateException {
        if (sort != NONE) {
            needSort(sort);
        }
        needRuleTerms(a, b);
        Rule begun = begunRule();
        if (!isRuleBegun || begun.bodies >= 2) {
            throw new IllegalStateException("no body can be given");
        }
        return begun.addBody(sort, a, b);
    }

    public int rule() throws IllegalStateException {
        Rewriter rewriter = world.rewriter;
        if (!isRuleBegun || begunRule().bodies == 0 || rewriter.made >= MAX_RULES) {
            throw new IllegalStateException("no rule can be made");
        }
        note(MADE_RULE, 0, 0, 0);
        isRuleBegun = false;
        rewriter.made++;
        return rewriter.made - 1;
    }

    // ---- running

    public int begin(int node, int a, int b)
            throws IndexOutOfBoundsException, IllegalArgumentException, IllegalStateException {
        needNode(node);
        if (isNoVariable(a) || isNoVariable(b)) {
            throw new IndexOutOfBoundsException("there is no such variable");
        }
        if (!isValue(a) && a < FREE || !isValue(b) && b < FREE) {
            throw new IllegalArgumentException("neither a value nor a variable");
        }
        if (world.store.hasFailed || world.forNext() >= MAX_BEGUN) {
            throw new IllegalStateException("no agent can be begun");
        }
        note(BEGUN, node, a, b);
        world.admit(node, a, b);
        return world.forNext();
    }

    public int step() throws IllegalStateException {
        if (world.store.hasFailed || world.steps >= MAX_STEPS) {
            throw new IllegalStateException("no step can be done");
        }
        note(STEPPED, 0, 0, 0);
        survey.restart();
        world.doStep(survey);
        return world.store.acts;
    }

    public int seed(int seed) throws IllegalArgumentException {
        needWithin(seed, 0, MODULUS - 1);
        note(SEEDED, seed, 0, 0);
        int before = world.draws.x;
        world.draws.x = seed;
        return before;
    }

    public int ends() throws IllegalStateException {
        if (world.store.hasFailed) {
            throw new IllegalStateException("the store has failed");
        }
        survey.restart();
        boolean isMore = true;
        for (int schedule = 0; schedule < MAX_SCHEDULES && isMore; schedule++) {
            scratch.copyFrom(world);
            scratch.doStep(survey);
            survey.record(scratch.store, world.store.variables);
            isMore = survey.turn();
        }
        return isMore ? NONE : survey.found;
    }

    // ---- what is asked

    public int clock() {
        return world.clock;
    }

    public boolean hasFailed() {
        return world.store.hasFailed;
    }

    public int variables() {
        return world.store.variables;
    }

    public int value(int variable) throws IndexOutOfBoundsException {
        needVariable(variable);
        int form = world.store.form(FREE + variable);
        return form < FREE ? form : NO_VALUE;
    }

    public boolean areOne(int variable, int other) throws IndexOutOfBoundsException {
        needVariable(variable);
        needVariable(other);
        return world.store.classOf[variable] == world.store.classOf[other];
    }

    public int tokens() {
        return world.store.tokens;
    }

    public int part(int token, int part) throws IndexOutOfBoundsException, IllegalArgumentException {
        needToken(token);
        Store store = world.store;
        switch (part) {
            case 0:
                return store.sort[token];
            case 1:
                return store.form(store.first[token]);
            case 2:
                return store.form(store.second[token]);
            case 3:
                return store.stands[token] ? 1 : 0;
            case 4:
                return store.lasts[token] ? 1 : 0;
            default:
                throw new IllegalArgumentException("there is no such part");
        }
    }

    public boolean isMadeBy(int token, int other) throws IndexOutOfBoundsException {
        needToken(token);
        needToken(other);
        return Store.isIn(other, world.store.low[token], world.store.high[token]);
    }

    public int standing() {
        return world.store.countStanding();
    }

    public int standingAnew() {
        scratch.clear();
        for (int i = 0; i < entries; i++) {
            int at = ENTRY * i;
            switch (journal[at]) {
                case MADE_VARIABLE:
                    scratch.store.makeVariable();
                    break;
                case DEFINED:
                    scratch.definitions[journal[at + 1]] = journal[at + 2];
                    break;
                case MADE_RULE:
                    scratch.rewriter.made++;
                    break;
                case BEGUN:
                    scratch.admit(journal[at + 1], journal[at + 2], journal[at + 3]);
                    break;
                case STEPPED:
                    survey.restart();
                    scratch.doStep(survey);
                    break;
                default:
                    scratch.draws.x = journal[at + 1];
                    break;
            }
        }
        return scratch.store.countStanding();
    }

    public int waiting() {
        return world.forNext();
    }

    public int fired(int rule) throws IndexOutOfBoundsException {
        if (rule < 0 || rule >= world.rewriter.made) {
            throw new IndexOutOfBoundsException("there is no such rule");
        }
        return world.rewriter.firings[rule];
    }

    public int chance(boolean isAbove) {
        return world.draws.line(isAbove);
    }

    // ---- what the calls above need

    private void needNode(int node) {
        if (node < 0 || node >= nodes.count) {
            throw new IndexOutOfBoundsException("there is no such node");
        }
    }

    private void needDefinition(int definition) {
        if (definition < 0 || definition >= DEFINITIONS) {
            throw new IndexOutOfBoundsException("there is no such definition");
        }
    }

    private void needVariable(int variable) {
        if (variable < 0 || variable >= world.store.variables) {
            throw new IndexOutOfBoundsException("there is no such variable");
        }
    }

    private void needToken(int token) {
        if (token < 0 || token >= world.store.tokens) {
            throw new IndexOutOfBoundsException("there is no such token");
        }
    }

    private void needRoom() {
        if (nodes.count >= MAX_NODES) {
            throw new IllegalStateException("there are as many nodes as there may be");
        }
    }

    private static void needWithin(int number, int low, int high) {
        if (number < low || number > high) {
            throw new IllegalArgumentException("an argument is out of its range");
        }
    }

    private static void needSort(int sort) {
        needWithin(sort, 0, SORTS - 1);
    }

    private static void needCondition(int condition) {
        if (condition < HAS || condition >= HAS + SORTS) {
            needWithin(condition, EQUAL, KNOWN);
        }
    }

    /** The second term of a condition; KNOWN has none, so that any b will do, and a value stands for it. */
    private static int asked(int condition, int b) {
        return condition == KNOWN ? 0 : b;
    }

    private static void needTerms(int a, int b) {
        if (!isTerm(a) || !isTerm(b)) {
            throw new IllegalArgumentException("neither a value nor a slot");
        }
    }

    private static void needPatterns(int a, int b) {
        if (a != ANY && !isTerm(a) || b != ANY && !isTerm(b)) {
            throw new IllegalArgumentException("no value, rule variable or ANY");
        }
    }

    private void needRuleTerms(int a, int b) {
        if (!isRuleTerm(a) || !isRuleTerm(b)) {
            throw new IllegalArgumentException("neither a value nor a rule variable of a head");
        }
    }

    private boolean isRuleTerm(int term) {
        return isValue(term) || isRuleBegun && begunRule().isBinding(term);
    }

    private boolean isNoVariable(int term) {
        return term >= FREE && term - FREE >= world.store.variables;
    }

    private static boolean isValue(int term) {
        return term >= -MAX_VALUE && term <= MAX_VALUE;
    }

    private static boolean isSlot(int term) {
        return term >= SLOT && term < SLOT + SLOTS;
    }

    private static boolean isTerm(int term) {
        return isValue(term) || isSlot(term);
    }

    private Rule begunRule() {
        return rules[Math.min(world.rewriter.made, MAX_RULES)];
    }

    private void note(int kind, int a, int b, int c) {
        if (entries >= MAX_CALLS) {
            return;
        }
        int at = ENTRY * entries;
        journal[at] = kind;
        journal[at + 1] = a;
        journal[at + 2] = b;
        journal[at + 3] = c;
        entries++;
    }

    /** The nodes as they were told; a node never changes. */
    private static final class Nodes {
        static final int EQUATE = 0, TOKEN = 1, LASTING = 2, BOTH = 3, WHEN = 4, EITHER = 5, HIDE = 6;
        static final int CALL = 7, NEXT = 8, EACH = 9, UNLESS = 10, DEFAULT = 11, LOT = 12, TRY = 13;

        final int[] kind = new int[MAX_NODES];
        // A condition, a sort, a slot or a definition.
        final int[] what = new int[MAX_NODES];
        // Terms, priorities or weights.
        final int[] a = new int[MAX_NODES];
        final int[] b = new int[MAX_NODES];
        final int[] one = new int[MAX_NODES];
        final int[] other = new int[MAX_NODES];
        int count;

        int add(int newKind, int newWhat, int newA, int newB, int newOne, int newOther) {
            if (count >= MAX_NODES) {
                return NONE;
            }
            kind[count] = newKind;
            what[count] = newWhat;
            a[count] = newA;
            b[count] = newB;
            one[count] = newOne;
            other[count] = newOther;
            count++;
            return count - 1;
        }
    }

    /** A rule that was made, or is begun. */
    private static final class Rule {
        final int[] sorts = new int[2];
        final int[] patterns = new int[4];
        final boolean[] stays = new boolean[2];
        final int[] bodySorts = new int[2];
        final int[] bodyTerms = new int[4];
        int heads;
        int bodies;
        int bound;
        boolean isGuarded;
        int condition;
        int guardA;
        int guardB;

        void clear() {
            heads = 0;
            bodies = 0;
            bound = 0;
            isGuarded = false;
        }

        int addHead(int sort, int a, int b, boolean isKept) {
            if (heads >= 2) {
                return heads;
            }
            sorts[heads] = sort;
            patterns[2 * heads] = a;
            patterns[2 * heads + 1] = b;
            stays[heads] = isKept;
            bind(a);
            bind(b);
            heads++;
            return heads;
        }

        private void bind(int pattern) {
            if (isSlot(pattern)) {
                bound |= 1 << (pattern - SLOT);
            }
        }

        boolean isBinding(int term) {
            return isSlot(term) && (bound >> (term - SLOT) & 1) != 0;
        }

        void addGuard(int newCondition, int a, int b) {
            isGuarded = true;
            condition = newCondition;
            guardA = a;
            guardB = b;
        }

        int addBody(int sort, int a, int b) {
            if (bodies >= 2) {
                return bodies;
            }
            bodySorts[bodies] = sort;
            bodyTerms[2 * bodies] = a;
            bodyTerms[2 * bodies + 1] = b;
            bodies++;
            return bodies;
        }

        boolean removesNone() {
            return stays[0] && (heads < 2 || stays[1]);
        }
    }

    /** The agent at hand: it is read out of a list, changed, and put into another one. */
    private static final class Agent {
        final int[] frame = new int[SLOTS];
        int node;
        long low;
        long high;

        void take(int newNode, int a, int b) {
            node = newNode;
            frame[0] = a;
            frame[1] = b;
            frame[2] = 0;
            frame[3] = 0;
        }

        int look(int term) {
            return isSlot(term) ? frame[term - SLOT] : term;
        }

        void include(Store store, int token) {
            if (token < 0 || token >= store.tokens) {
                return;
            }
            low |= Store.lowBit(token) | store.low[token];
            high |= Store.highBit(token) | store.high[token];
        }
    }

    /** Agents in an order, held in rows that are used again and again. */
    private static final class AgentList {
        private final int room;
        private final int[] nodeOf;
        private final int[] frames;
        private final long[] slices;
        int size;

        AgentList(int newRoom) {
            room = newRoom < 1 ? 1 : newRoom;
            nodeOf = new int[room];
            frames = new int[SLOTS * room];
            slices = new long[2 * room];
        }

        /** The node comes behind all others, with the frame and the slice of the agent. */
        void add(int node, Agent agent) {
            if (size >= room) {
                return;
            }
            nodeOf[size] = node;
            System.arraycopy(agent.frame, 0, frames, SLOTS * size, SLOTS);
            slices[2 * size] = agent.low;
            slices[2 * size + 1] = agent.high;
            size++;
        }

        void addAll(AgentList list) {
            int many = Math.min(list.size, room - size);
            if (many <= 0) {
                return;
            }
            System.arraycopy(list.nodeOf, 0, nodeOf, size, many);
            System.arraycopy(list.frames, 0, frames, SLOTS * size, SLOTS * many);
            System.arraycopy(list.slices, 0, slices, 2 * size, 2 * many);
            size += many;
        }

        void read(int at, Agent agent) {
            if (at < 0 || at >= size) {
                return;
            }
            agent.node = nodeOf[at];
            System.arraycopy(frames, SLOTS * at, agent.frame, 0, SLOTS);
            agent.low = slices[2 * at];
            agent.high = slices[2 * at + 1];
        }

        void drop(int at) {
            if (at < 0 || at >= size) {
                return;
            }
            int behind = size - at - 1;
            System.arraycopy(nodeOf, at + 1, nodeOf, at, behind);
            System.arraycopy(frames, SLOTS * (at + 1), frames, SLOTS * at, SLOTS * behind);
            System.arraycopy(slices, 2 * (at + 1), slices, 2 * at, 2 * behind);
            size--;
        }
    }

    /** The step itself, or a TRY within it: its agents, and what is put back if it fails. */
    private static final class Level {
        // A step begins with at most 60 agents, and each of its 60 acts makes the queue longer by at most one.
        final AgentList queue = new AgentList(2 * MAX_ACTS);
        final AgentList waits = new AgentList(MAX_ACTS);
        final AgentList assumed = new AgentList(MAX_ACTS);
        final AgentList next = new AgentList(MAX_ACTS);
        final AgentList otherwise = new AgentList(1);
        final int[] classOf = new int[MAX_VARIABLES];
        final int[] values = new int[MAX_VARIABLES];
        final boolean[] stands = new boolean[MAX_TOKENS];
        int variables;
        int tokens;
        int remembered;

        void open() {
            queue.size = 0;
            waits.size = 0;
            assumed.size = 0;
            next.size = 0;
        }
    }

    /** Variables in their classes, and tokens. */
    private static final class Store {
        final int[] classOf = new int[MAX_VARIABLES];
        // By the lowest variable of a class.
        final int[] values = new int[MAX_VARIABLES];
        int variables;
        final int[] sort = new int[MAX_TOKENS];
        final int[] first = new int[MAX_TOKENS];
        final int[] second = new int[MAX_TOKENS];
        final boolean[] lasts = new boolean[MAX_TOKENS];
        final boolean[] stands = new boolean[MAX_TOKENS];
        final long[] low = new long[MAX_TOKENS];
        final long[] high = new long[MAX_TOKENS];
        int tokens;
        int acts;
        boolean hasFailed;

        static long lowBit(int token) {
            return token < 64 ? 1L << token : 0L;
        }

        static long highBit(int token) {
            return token < 64 ? 0L : 1L << (token - 64);
        }

        static boolean isIn(int token, long low, long high) {
            return (lowBit(token) & low | highBit(token) & high) != 0L;
        }

        void clear() {
            variables = 0;
            tokens = 0;
            acts = 0;
            hasFailed = false;
        }

        void copyFrom(Store store) {
            variables = store.variables;
            tokens = store.tokens;
            acts = store.acts;
            hasFailed = store.hasFailed;
            System.arraycopy(store.classOf, 0, classOf, 0, MAX_VARIABLES);
            System.arraycopy(store.values, 0, values, 0, MAX_VARIABLES);
            System.arraycopy(store.sort, 0, sort, 0, MAX_TOKENS);
            System.arraycopy(store.first, 0, first, 0, MAX_TOKENS);
            System.arraycopy(store.second, 0, second, 0, MAX_TOKENS);
            System.arraycopy(store.lasts, 0, lasts, 0, MAX_TOKENS);
            System.arraycopy(store.stands, 0, stands, 0, MAX_TOKENS);
            System.arraycopy(store.low, 0, low, 0, MAX_TOKENS);
            System.arraycopy(store.high, 0, high, 0, MAX_TOKENS);
        }

        void save(Level level) {
            level.variables = variables;
            level.tokens = tokens;
            System.arraycopy(classOf, 0, level.classOf, 0, MAX_VARIABLES);
            System.arraycopy(values, 0, level.values, 0, MAX_VARIABLES);
            System.arraycopy(stands, 0, level.stands, 0, MAX_TOKENS);
        }

        /** Puts back what was saved, but the numbers that were given since stay given. */
        void restore(Level level) {
            hasFailed = false;
            for (int variable = 0; variable < variables; variable++) {
                boolean isOld = variable < level.variables;
                classOf[variable] = isOld ? level.classOf[variable] : variable;
                values[variable] = isOld ? level.values[variable] : NO_VALUE;
            }
            for (int token = 0; token < tokens; token++) {
                stands[token] = token < level.tokens && level.stands[token];
            }
        }

        /** Counts one act more, or fails if there would be one too many. */
        boolean mayAct() {
            if (acts >= MAX_ACTS) {
                hasFailed = true;
                return false;
            }
            acts++;
            return true;
        }

        int makeVariable() {
            if (variables >= MAX_VARIABLES) {
                hasFailed = true;
                return NONE;
            }
            classOf[variables] = variables;
            values[variables] = NO_VALUE;
            variables++;
            return variables - 1;
        }

        /** The value of a term, or the lowest variable of its class: EQUAL terms have the same form. */
        int form(int term) {
            int variable = term - FREE;
            if (variable < 0 || variable >= variables) {
                return term;
            }
            int root = classOf[variable];
            return values[root] != NO_VALUE ? values[root] : FREE + root;
        }

        private int rootOf(int term) {
            int variable = term - FREE;
            return variable < 0 || variable >= variables ? NONE : classOf[variable];
        }

        boolean isEntailed(int condition, int a, int b) {
            if (condition >= HAS) {
                return lowest(condition - HAS, a, b) != NONE;
            }
            int left = form(a);
            int right = form(b);
            boolean areKnown = left < FREE && right < FREE;
            switch (condition) {
                case EQUAL:
                    return left == right;
                case UNLIKE:
                    return areKnown && left != right;
                case LESS:
                    return areKnown && left < right;
                default:
                    return left < FREE;
            }
        }

        /** The lowest token of the sort that stands with these arguments, or NONE. */
        int lowest(int wanted, int a, int b) {
            int left = form(a);
            int right = form(b);
            for (int token = 0; token < tokens; token++) {
                if (stands[token] && sort[token] == wanted && form(first[token]) == left
                        && form(second[token]) == right) {
                    return token;
                }
            }
            return NONE;
        }

        /** Tells that two terms are equal; answers the class that became one or got a value, or NONE. */
        int unite(int a, int b) {
            int left = form(a);
            int right = form(b);
            if (left < FREE && right < FREE && left != right) {
                hasFailed = true;
                return NONE;
            }
            int one = rootOf(a);
            int other = rootOf(b);
            if (one == other) {
                return NONE;
            }
            int known = left < FREE ? left : right < FREE ? right : NO_VALUE;
            if (one != NONE && other != NONE) {
                return join(Math.min(one, other), Math.max(one, other), known);
            }
            int root = Math.max(one, other);
            if (values[root] != NO_VALUE) {
                return NONE;
            }
            values[root] = known;
            return root;
        }

        private int join(int root, int gone, int known) {
            for (int variable = 0; variable < variables; variable++) {
                if (classOf[variable] == gone) {
                    classOf[variable] = root;
                }
            }
            values[root] = known;
            return root;
        }

        boolean isTouched(int token, int root) {
            return stands[token] && (rootOf(first[token]) == root || rootOf(second[token]) == root);
        }

        int addToken(int newSort, int a, int b, boolean isLasting, long sliceLow, long sliceHigh) {
            if (tokens >= MAX_TOKENS) {
                hasFailed = true;
                return NONE;
            }
            sort[tokens] = newSort;
            first[tokens] = a;
            second[tokens] = b;
            lasts[tokens] = isLasting;
            stands[tokens] = true;
            low[tokens] = sliceLow;
            high[tokens] = sliceHigh;
            tokens++;
            return tokens - 1;
        }

        void dropPassing() {
            for (int token = 0; token < tokens; token++) {
                stands[token] = stands[token] && lasts[token];
            }
        }

        int countStanding() {
            int count = 0;
            for (int token = 0; token < tokens; token++) {
                if (stands[token]) {
                    count++;
                }
            }
            return count;
        }
    }

    /** One thing that the rewriter is about: an active token, tokens that wake, or bodies to tell. */
    private static final class Frame {
        static final int ACTIVE = 0, WAKING = 1, BODIES = 2;

        final int[] binds = new int[SLOTS];
        int kind;
        int token;
        // Which head and other token come next: rule by rule, head by head, token by token.
        int place;
        int rule;
        int body;
        boolean lasts;
        // The tokens that wake, or the slice of the bodies.
        long low;
        long high;
    }

    /** Tells tokens and equalities, and lets the rules fire; what is active stands on a stack of frames. */
    private static final class Rewriter {
        // An act opens two frames at most, and each of 60 firings three more at most.
        private static final int DEEPEST = 3 * MAX_ACTS + 3;
        private static final int PLACES = 2 * MAX_TOKENS;
        private static final int UNBOUND = 1000;

        private final Store store;
        private final Rule[] rules;
        private final Frame[] frames = new Frame[DEEPEST];
        private int depth;
        private final int[] binds = new int[SLOTS];
        // Bits by rule, token of the first head, and token of the second one.
        private final long[] history = new long[MAX_RULES * MAX_TOKENS * 2];
        // The firings of this step that were remembered, so that a TRY that fails can forget its own.
        private final int[] recent = new int[MAX_ACTS];
        int remembered;
        final int[] firings = new int[MAX_RULES];
        int made;

        Rewriter(Store newStore, Rule[] newRules) {
            store = newStore;
            rules = newRules;
            for (int i = 0; i < frames.length; i++) {
                frames[i] = new Frame();
            }
        }

        void clear() {
            depth = 0;
            made = 0;
            remembered = 0;
            Arrays.fill(history, 0L);
            Arrays.fill(firings, 0);
        }

        void copyFrom(Rewriter rewriter) {
            made = rewriter.made;
            System.arraycopy(rewriter.history, 0, history, 0, history.length);
            System.arraycopy(rewriter.firings, 0, firings, 0, firings.length);
        }

        void startStep() {
            depth = 0;
            remembered = 0;
        }

        boolean isBusy() {
            return depth > 0;
        }

        void stop() {
            depth = 0;
        }

        private Frame push(int kind) {
            if (depth >= DEEPEST) {
                store.hasFailed = true;
                return frames[DEEPEST - 1];
            }
            Frame frame = frames[depth];
            depth++;
            frame.kind = kind;
            frame.token = 0;
            frame.place = 0;
            frame.body = 0;
            frame.low = 0L;
            frame.high = 0L;
            return frame;
        }

        void tellToken(int sort, int a, int b, boolean lasts, long low, long high) {
            int token = store.addToken(sort, a, b, lasts, low, high);
            if (token != NONE) {
                push(Frame.ACTIVE).token = token;
            }
        }

        void tellEqual(int a, int b) {
            int root = store.unite(a, b);
            if (root == NONE) {
                return;
            }
            Frame frame = push(Frame.WAKING);
            for (int token = 0; token < store.tokens; token++) {
                if (store.isTouched(token, root)) {
                    frame.low |= Store.lowBit(token);
                    frame.high |= Store.highBit(token);
                }
            }
        }

        /** Does the next bit of what is on top of the stack. */
        void advance() {
            if (depth <= 0 || depth > DEEPEST) {
                return;
            }
            Frame frame = frames[depth - 1];
            switch (frame.kind) {
                case Frame.ACTIVE:
                    advanceActive(frame);
                    break;
                case Frame.WAKING:
                    advanceWaking(frame);
                    break;
                default:
                    advanceBodies(frame);
                    break;
            }
        }

        private void advanceActive(Frame frame) {
            int token = frame.token;
            int end = store.stands[token] ? made * PLACES : 0;
            while (frame.place < end) {
                int place = frame.place;
                int which = place / PLACES;
                Rule rule = rules[which];
                int head = place / MAX_TOKENS % 2;
                int other = place % MAX_TOKENS;
                int others = rule.heads < 2 ? 1 : store.tokens;
                if (head >= rule.heads || rule.sorts[head] != store.sort[token] || other >= others) {
                    frame.place = place - other + MAX_TOKENS;
                    continue;
                }
                frame.place = place + 1;
                int partner = rule.heads < 2 ? NONE : other;
                int one = head == 0 ? token : partner;
                int two = head == 0 ? partner : token;
                if (isPartner(rule, head, token, partner) && isNew(which, one, two) && isMatch(rule, one, two)) {
                    fire(which, one, two);
                    return;
                }
            }
            depth--;
        }

        /** Whether the partner can be the other head at all; most are passed over by this alone. */
        private boolean isPartner(Rule rule, int head, int token, int partner) {
            return rule.heads < 2 || partner != token && store.stands[partner]
                    && store.sort[partner] == rule.sorts[head == 0 ? 1 : 0];
        }

        /** Whether tokens of the right sorts match the heads and the guard is entailed; fills the binds. */
        private boolean isMatch(Rule rule, int one, int two) {
            Arrays.fill(binds, UNBOUND);
            for (int place = 0; place < 2 * rule.heads; place++) {
                int token = place < 2 ? one : two;
                int argument = place % 2 == 0 ? store.first[token] : store.second[token];
                int pattern = rule.patterns[place];
                if (pattern == ANY) {
                    continue;
                }
                if (isSlot(pattern) && binds[pattern - SLOT] == UNBOUND) {
                    binds[pattern - SLOT] = argument;
                } else if (store.form(resolve(pattern, binds)) != store.form(argument)) {
                    return false;
                }
            }
            return !rule.isGuarded || store.isEntailed(rule.condition, resolve(rule.guardA, binds),
                    resolve(rule.guardB, binds));
        }

        private static int resolve(int term, int[] bound) {
            return isSlot(term) ? bound[term - SLOT] : term;
        }

        private static int historyRow(int rule, int one, int two) {
            return 2 * (rule * MAX_TOKENS + one) + (two < 64 ? 0 : 1);
        }

        private static long historyBit(int two) {
            return two < 0 ? 1L : 1L << (two & 63);
        }

        private boolean isNew(int rule, int one, int two) {
            return (history[historyRow(rule, one, two)] & historyBit(two)) == 0L;
        }

        private void remember(int rule, int one, int two) {
            history[historyRow(rule, one, two)] |= historyBit(two);
            if (remembered < MAX_ACTS) {
                recent[remembered] = (rule * MAX_TOKENS + one) * MAX_TOKENS + Math.max(two, 0);
                remembered++;
            }
        }

        /** Forgets the firings remembered since there were so many. */
        void forget(int many) {
            for (; remembered > many && remembered > 0; remembered--) {
                int code = recent[remembered - 1];
                int two = code % MAX_TOKENS;
                int row = historyRow(code / MAX_TOKENS / MAX_TOKENS, code / MAX_TOKENS % MAX_TOKENS, two);
                history[row] &= ~historyBit(two);
            }
        }

        private void fire(int which, int one, int two) {
            if (!store.mayAct()) {
                return;
            }
            Rule rule = rules[which];
            firings[which]++;
            if (rule.removesNone()) {
                remember(which, one, two);
            }
            Frame frame = push(Frame.BODIES);
            frame.rule = which;
            frame.lasts = true;
            System.arraycopy(binds, 0, frame.binds, 0, SLOTS);
            for (int head = 0; head < rule.heads; head++) {
                int token = head == 0 ? one : two;
                store.stands[token] = rule.stays[head];
                frame.lasts = frame.lasts && store.lasts[token];
                frame.low |= Store.lowBit(token) | store.low[token];
                frame.high |= Store.highBit(token) | store.high[token];
            }
        }

        private void advanceWaking(Frame frame) {
            for (int token = frame.token; token < store.tokens; token++) {
                if (Store.isIn(token, frame.low, frame.high) && store.stands[token]) {
                    frame.token = token + 1;
                    push(Frame.ACTIVE).token = token;
                    return;
                }
            }
            depth--;
        }

        private void advanceBodies(Frame frame) {
            Rule rule = rules[frame.rule];
            int body = frame.body;
            if (body >= rule.bodies) {
                depth--;
                return;
            }
            frame.body++;
            int a = resolve(rule.bodyTerms[2 * body], frame.binds);
            int b = resolve(rule.bodyTerms[2 * body + 1], frame.binds);
            if (rule.bodySorts[body] == NONE) {
                tellEqual(a, b);
            } else {
                tellToken(rule.bodySorts[body], a, b, frame.lasts, frame.low, frame.high);
            }
        }
    }

    /** The draws of lots, and the chance of those that were made. */
    private static final class Draws {
        // A weight is at most 9 and a sum at most 18, so these are all primes that the chance can have.
        private static final int[] PRIMES = {2, 3, 5, 7, 11, 13, 17};
        private static final int CUT = 1000003;

        private final int[] powers = new int[PRIMES.length];
        int x = 1;

        void clear() {
            x = 1;
            Arrays.fill(powers, 0);
        }

        void copyFrom(Draws draws) {
            x = draws.x;
            System.arraycopy(draws.powers, 0, powers, 0, powers.length);
        }

        boolean isFirst(int weight, int more) {
            x = (x * 75 + 74) % MODULUS;
            int sum = weight + more;
            boolean isOne = sum <= 0 || x % sum < weight;
            multiply(isOne ? weight : more, 1);
            multiply(sum, -1);
            return isOne;
        }

        private void multiply(int number, int sign) {
            for (int i = 0; i < PRIMES.length; i++) {
                for (int rest = number; rest > 1 && rest % PRIMES[i] == 0; rest /= PRIMES[i]) {
                    powers[i] += sign;
                }
            }
        }

        int line(boolean isAbove) {
            long product = 1L;
            for (int i = 0; i < PRIMES.length; i++) {
                int power = isAbove ? powers[i] : -powers[i];
                for (int n = 0; n < power; n++) {
                    product = product * PRIMES[i] % CUT;
                }
            }
            return (int) product;
        }
    }

    /** One schedule after another of a step, and the different ends that they have. */
    private static final class Survey {
        private static final int WIDTH = 2 + MAX_VARIABLES + MAX_TOKENS;

        private final int[] choice = new int[MAX_ACTS + 1];
        private final int[] choices = new int[MAX_ACTS + 1];
        private int planned;
        private int chosen;
        private final int[] rows = new int[MAX_SCHEDULES * WIDTH];
        int found;

        /** Plans nothing: then the first of the queue is always taken. */
        void restart() {
            planned = 0;
            chosen = 0;
            found = 0;
        }

        int choose(int many) {
            if (many < 2 || chosen >= choice.length) {
                return 0;
            }
            int at = chosen;
            chosen++;
            if (at >= planned) {
                choice[at] = 0;
            }
            choices[at] = many;
            return choice[at];
        }

        /** Plans the schedule that comes behind the last one, if there is one. */
        boolean turn() {
            for (int at = chosen - 1; at >= 0; at--) {
                if (choice[at] + 1 < choices[at]) {
                    choice[at]++;
                    planned = at + 1;
                    chosen = 0;
                    return true;
                }
            }
            return false;
        }

        void record(Store store, int variables) {
            if (found >= MAX_SCHEDULES) {
                return;
            }
            int start = found * WIDTH;
            Arrays.fill(rows, start, start + WIDTH, 0);
            rows[start] = store.hasFailed ? 1 : 0;
            rows[start + 1] = store.countStanding();
            for (int i = 0; i < variables && i < MAX_VARIABLES; i++) {
                int form = store.form(FREE + i);
                rows[start + 2 + i] = form < FREE ? form : NO_VALUE;
            }
            recordTokens(store, start + 2 + MAX_VARIABLES);
            for (int row = 0; row < found; row++) {
                if (isSame(row * WIDTH, start)) {
                    return;
                }
            }
            found++;
        }

        private void recordTokens(Store store, int start) {
            int end = start;
            for (int token = 0; token < store.tokens; token++) {
                if (!store.stands[token]) {
                    continue;
                }
                int code = 2 * store.sort[token] + (store.lasts[token] ? 1 : 0);
                code = (code << 10) + store.form(store.first[token]) + MAX_VALUE;
                code = (code << 10) + store.form(store.second[token]) + MAX_VALUE;
                int at = end;
                for (; at > start && rows[at - 1] > code; at--) {
                    rows[at] = rows[at - 1];
                }
                rows[at] = code;
                end++;
            }
        }

        private boolean isSame(int one, int other) {
            for (int i = 0; i < WIDTH; i++) {
                if (rows[one + i] != rows[other + i]) {
                    return false;
                }
            }
            return true;
        }
    }

    /** All that changes by steps. */
    private static final class World {
        // Far above what a step of 60 acts can need.
        private static final int TURNS = 1000000;

        private final Nodes nodes;
        final Store store = new Store();
        final Rewriter rewriter;
        final Draws draws = new Draws();
        final int[] definitions = new int[DEFINITIONS];
        // How often each side of an EITHER was taken, by its node.
        private final int[] taken = new int[2 * MAX_NODES];
        private final Level[] levels = new Level[MAX_TRIES + 1];
        private final Agent hand = new Agent();
        private int depth;
        private boolean isOver;
        int steps;
        int clock;

        World(Nodes newNodes, Rule[] rules) {
            nodes = newNodes;
            rewriter = new Rewriter(store, rules);
            for (int i = 0; i < levels.length; i++) {
                levels[i] = new Level();
            }
            Arrays.fill(definitions, NONE);
        }

        void clear() {
            store.clear();
            rewriter.clear();
            draws.clear();
            Arrays.fill(definitions, NONE);
            Arrays.fill(taken, 0);
            levels[0].open();
            steps = 0;
            clock = 0;
        }

        void copyFrom(World world) {
            store.copyFrom(world.store);
            rewriter.copyFrom(world.rewriter);
            draws.copyFrom(world.draws);
            System.arraycopy(world.definitions, 0, definitions, 0, DEFINITIONS);
            System.arraycopy(world.taken, 0, taken, 0, taken.length);
            levels[0].open();
            levels[0].next.addAll(world.levels[0].next);
            steps = world.steps;
            clock = world.clock;
        }

        int forNext() {
            return levels[0].next.size;
        }

        void admit(int node, int a, int b) {
            hand.take(node, a, b);
            hand.low = 0L;
            hand.high = 0L;
            levels[0].next.add(node, hand);
        }

        void doStep(Survey survey) {
            Level outside = levels[0];
            AgentList begun = outside.next;
            outside.queue.size = 0;
            outside.queue.addAll(begun);
            begun.size = 0;
            // What waited, or was assumed, in the step before is dropped by its end.
            outside.waits.size = 0;
            outside.assumed.size = 0;
            rewriter.startStep();
            store.acts = 0;
            depth = 0;
            isOver = false;
            steps++;
            for (int turn = 0; turn < TURNS && !isOver; turn++) {
                Level level = levels[depth];
                int many = level.queue.size;
                if (store.hasFailed) {
                    giveUp(level);
                } else if (rewriter.isBusy()) {
                    rewriter.advance();
                } else if (many > 0) {
                    act(level, depth == 0 ? survey.choose(many) : 0);
                } else if (!goOn(level) && !assume(level)) {
                    finish(level);
                }
            }
        }

        private void giveUp(Level level) {
            rewriter.stop();
            if (depth == 0) {
                isOver = true;
                return;
            }
            store.restore(level);
            rewriter.forget(level.remembered);
            depth--;
            level.otherwise.read(0, hand);
            levels[depth].queue.add(hand.node, hand);
        }

        private void act(Level level, int at) {
            AgentList queue = level.queue;
            queue.read(at, hand);
            queue.drop(at);
            if (!store.mayAct()) {
                return;
            }
            int node = hand.node;
            int kind = nodes.kind[node];
            int what = nodes.what[node];
            int a = hand.look(nodes.a[node]);
            int b = hand.look(nodes.b[node]);
            int one = nodes.one[node];
            int other = nodes.other[node];
            switch (kind) {
                case Nodes.EQUATE:
                    rewriter.tellEqual(a, b);
                    break;
                case Nodes.TOKEN:
                case Nodes.LASTING:
                    rewriter.tellToken(what, a, b, kind == Nodes.LASTING, hand.low, hand.high);
                    break;
                case Nodes.BOTH:
                    queue.add(one, hand);
                    queue.add(other, hand);
                    break;
                case Nodes.WHEN:
                case Nodes.EITHER:
                    ask(level, node, sideOf(node));
                    break;
                case Nodes.HIDE:
                    conceal(level, what, one);
                    break;
                case Nodes.CALL:
                    enter(level, definitions[what], a, b);
                    break;
                case Nodes.NEXT:
                    level.next.add(one, hand);
                    break;
                case Nodes.EACH:
                    queue.add(one, hand);
                    level.next.add(node, hand);
                    break;
                case Nodes.LOT:
                    queue.add(draws.isFirst(a, b) ? one : other, hand);
                    break;
                case Nodes.TRY:
                    dare(level, one, other);
                    break;
                default:
                    level.waits.add(node, hand);
                    break;
            }
        }

        private void conceal(Level level, int slot, int node) {
            int variable = store.makeVariable();
            if (variable == NONE || slot < 0 || slot >= SLOTS) {
                return;
            }
            hand.frame[slot] = FREE + variable;
            level.queue.add(node, hand);
        }

        private void enter(Level level, int node, int a, int b) {
            if (node == NONE) {
                return;
            }
            hand.take(node, a, b);
            level.queue.add(node, hand);
        }

        /** Opens a level for a TRY; beyond three others it fails at once. */
        private void dare(Level level, int node, int other) {
            if (depth >= MAX_TRIES) {
                level.queue.add(other, hand);
                return;
            }
            depth++;
            Level inner = levels[depth];
            inner.open();
            store.save(inner);
            inner.remembered = rewriter.remembered;
            inner.otherwise.size = 0;
            inner.otherwise.add(other, hand);
            inner.queue.add(node, hand);
        }

        /** A WHEN or an EITHER goes on at that side, or waits if there is none. */
        private void ask(Level level, int node, int side) {
            if (side == NONE) {
                level.waits.add(node, hand);
                return;
            }
            int when = node;
            if (nodes.kind[node] == Nodes.EITHER) {
                when = side == 0 ? nodes.one[node] : nodes.other[node];
                taken[2 * node + side]++;
            }
            int condition = nodes.what[when];
            if (condition >= HAS) {
                int a = hand.look(nodes.a[when]);
                int b = hand.look(nodes.b[when]);
                hand.include(store, store.lowest(condition - HAS, a, b));
            }
            level.queue.add(nodes.one[when], hand);
        }

        /** Which side of an EITHER can go on and is due, 0 for a WHEN that can; NONE if it has to wait. */
        private int sideOf(int node) {
            if (nodes.kind[node] == Nodes.WHEN) {
                return isEntailed(node) ? 0 : NONE;
            }
            if (nodes.kind[node] != Nodes.EITHER) {
                return NONE;
            }
            boolean isSecond = isEntailed(nodes.other[node]);
            if (!isEntailed(nodes.one[node])) {
                return isSecond ? 1 : NONE;
            }
            if (!isSecond) {
                return 0;
            }
            int first = nodes.a[node];
            int last = nodes.b[node];
            if (first != last) {
                return first > last ? 0 : 1;
            }
            return taken[2 * node + 1] < taken[2 * node] ? 1 : 0;
        }

        private boolean isEntailed(int node) {
            return store.isEntailed(nodes.what[node], hand.look(nodes.a[node]), hand.look(nodes.b[node]));
        }

        /** Those that wait and can go on come into the queue; answers whether there were any. */
        private boolean goOn(Level level) {
            AgentList waits = level.waits;
            int at = 0;
            for (int left = waits.size; left > 0; left--) {
                waits.read(at, hand);
                if (sideOf(hand.node) == NONE) {
                    at++;
                } else {
                    level.queue.add(hand.node, hand);
                    waits.drop(at);
                }
            }
            return level.queue.size > 0;
        }

        /** The first DEFAULT that can be assumed comes into the queue; answers whether there was one. */
        private boolean assume(Level level) {
            AgentList waits = level.waits;
            for (int at = 0; at < waits.size; at++) {
                waits.read(at, hand);
                if (nodes.kind[hand.node] == Nodes.DEFAULT && !isEntailed(hand.node)) {
                    level.assumed.add(hand.node, hand);
                    level.queue.add(nodes.one[hand.node], hand);
                    waits.drop(at);
                    return true;
                }
            }
            return false;
        }

        /** The end of the step, or of a TRY, unless an assumption turns out to be wrong. */
        private void finish(Level level) {
            for (int at = 0; at < level.assumed.size; at++) {
                level.assumed.read(at, hand);
                if (isEntailed(hand.node)) {
                    store.hasFailed = true;
                    return;
                }
            }
            for (int at = 0; at < level.waits.size; at++) {
                level.waits.read(at, hand);
                if (nodes.kind[hand.node] == Nodes.UNLESS && !isEntailed(hand.node)) {
                    level.next.add(nodes.one[hand.node], hand);
                }
            }
            if (depth > 0) {
                depth--;
                levels[depth].next.addAll(level.next);
                return;
            }
            store.dropPassing();
            clock++;
            isOver = true;
        }
    }
}
