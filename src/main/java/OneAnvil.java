/** One anvil for three smiths: see README.md for how it is used. */
public final class OneAnvil {
    public static final int NONE = -1;

    private static final int NOT_THERE = -2;
    private static final int NOT_ASKED = -3;
    private static final int NO_NUMBER = -100000;
    private static final int SMITHS = 3;
    private static final int JOBS = 8;
    private static final int PARTS = 3;
    private static final int FACE_BIT = 1;
    private static final int WELD_BITS = 3;
    private static final int WELD = 3;
    private static final int SECOND_FACE = 3;
    private static final int RULES = 6;
    private static final int IMAGES = 4;
    private static final int UNDOABLE = 20;
    private static final int FAR = 500;
    private static final int AHEAD_MOST = 200;
    private static final int LAST_MOMENT = 9999;
    private static final int WORN_MOST = 9999;

    private final Tape tape = new Tape();
    private final Plan draft = new Plan();
    private final World world;
    private final Program[] rules = new Program[RULES];
    private int ruleCount = 0;
    private final State[] past = new State[UNDOABLE];
    private int pastCount = 0;
    private int pastNext = 0;
    private final World[] images = new World[IMAGES];
    private final boolean[] made = new boolean[IMAGES];
    private final Forge forge;
    private final Sight sight;
    private final Choices choices;
    private final Wheel wheel;
    private final Clues clues;

    public OneAnvil() {
        World fresh = new World();
        Forge fire = new Forge(fresh.plan);
        world = fresh;
        forge = fire;
        sight = new Sight(fresh.plan, fire);
        choices = new Choices(fresh.plan, fire);
        wheel = new Wheel(fresh.plan, fire);
        clues = new Clues(fresh.plan, fire);
        for (int k = 0; k < RULES; k++) {
            rules[k] = new Program();
        }
        for (int k = 0; k < UNDOABLE; k++) {
            past[k] = new State();
        }
        for (int k = 0; k < IMAGES; k++) {
            images[k] = new World();
        }
    }

    // ---- What is told

    public int feed(int a, int b, int c, int d, int e) {
        if (tape.length + 20 > Tape.ROOM) {
            return NONE;
        }
        tape.add(a);
        tape.add(b);
        tape.add(c);
        tape.add(d);
        tape.add(e);
        return tape.length;
    }

    public int end(int n) {
        if (n < 0 || n > tape.length) {
            return NONE;
        }
        tape.length = n;
        return n;
    }

    public int smithy() {
        int fault = draft.read(tape);
        tape.length = 0;
        if (fault != 0) {
            return -2 - fault;
        }
        world.plan.copyFrom(draft);
        world.state.begin(draft);
        world.notes.count = 0;
        pastCount = 0;
        return draft.jobs;
    }

    public int rule() {
        if (ruleCount >= RULES) {
            return NONE;
        }
        int fault = rules[ruleCount].read(tape);
        tape.length = 0;
        if (fault != 0) {
            return -2 - fault;
        }
        ruleCount++;
        return ruleCount - 1;
    }

    public int force(int rule) {
        if (rule < NONE || rule >= ruleCount) {
            return NOT_THERE;
        }
        int before = world.inForce;
        world.inForce = rule;
        return before;
    }

    // ---- What is so

    public int smith(int smith, int what) {
        if (!hasSmith(smith)) {
            return NOT_THERE;
        }
        State now = world.state;
        int job = now.jobOf(world.plan, smith);
        switch (what) {
            case 0: return now.heat[smith];
            case 1: return job;
            case 2: return job != NONE && now.heat[smith] >= world.plan.need[job] ? 1 : 0;
            case 3: return now.waits[smith];
            case 4: return now.done[smith];
            case 5: return now.earnedBy(world.plan, smith);
            case 6: return now.burnt[smith];
            case 7: return world.plan.quick[smith];
            case 8: return now.cold[smith];
            default: return NOT_THERE;
        }
    }

    public int job(int job, int what) {
        if (!hasJob(job)) {
            return NOT_THERE;
        }
        switch (what) {
            case 0: return world.plan.owner[job];
            case 1: return world.plan.part[job];
            case 2: return world.state.left[job];
            case 3: return world.plan.need[job];
            case 4: return world.plan.pay[job];
            case 5: return world.state.since[job];
            default: return NOT_THERE;
        }
    }

    public int worn(int part) {
        return hasPart(part) ? world.state.wear[part] : NONE;
    }

    public int count(int what) {
        Plan plan = world.plan;
        switch (what) {
            case 0: return plan.cool;
            case 1: return plan.burn;
            case 2: return plan.strength;
            case 3: return plan.smiths;
            case 4: return plan.jobs;
            case 5: return ruleCount;
            case 6: return world.inForce;
            case 7: return world.state.moment;
            case 8: return world.state.doneBits(plan);
            case 9: return earnedByAll();
            case 10: return splitBits();
            case 11: return world.notes.count;
            case 12: return pastCount;
            case 13: return world.x;
            case 14: return tape.length;
            default: return NONE;
        }
    }

    // ---- Acts

    public int moment() {
        if (!world.plan.told || world.state.moment >= LAST_MOMENT) {
            return NONE;
        }
        remember();
        forge.plain(ruleInForce());
        forge.go(world.state);
        return forge.blows;
    }

    public int quench(int smith) {
        if (!hasSmith(smith) || world.state.heat[smith] == 0) {
            return NONE;
        }
        remember();
        int before = world.state.heat[smith];
        world.state.heat[smith] = 0;
        return before;
    }

    public int mend(int part) {
        if (!hasPart(part) || world.state.wear[part] == 0) {
            return NONE;
        }
        remember();
        world.state.wear[part] = world.state.wear[part] / 2;
        return world.state.wear[part];
    }

    public int aside(int smith) {
        if (!hasSmith(smith) || world.state.toDo(world.plan, smith) < 2) {
            return NONE;
        }
        remember();
        world.state.putLast(world.plan, smith);
        world.state.heat[smith] = 0;
        return world.state.jobOf(world.plan, smith);
    }

    public int undo() {
        if (pastCount == 0) {
            return NONE;
        }
        pastNext = (pastNext + UNDOABLE - 1) % UNDOABLE;
        pastCount--;
        world.state.copyFrom(past[pastNext]);
        return pastCount;
    }

    // ---- What would be

    public int ahead(int smith, int n, int what) {
        if (!hasSmith(smith) || n < 0 || n > AHEAD_MOST || what < 0 || what > 2) {
            return NONE;
        }
        forge.plain(ruleInForce());
        State then = sight.goOn(world.state, n);
        if (what == 0) {
            return then.heat[smith];
        }
        if (what == 2) {
            return then.done[smith];
        }
        int job = then.jobOf(world.plan, smith);
        return job == NONE ? 0 : then.left[job];
    }

    public int ready(int job) {
        if (!hasJob(job)) {
            return NONE;
        }
        forge.plain(ruleInForce());
        return sight.readyAt(world.state, job);
    }

    public int all() {
        if (!world.plan.told) {
            return NONE;
        }
        forge.plain(ruleInForce());
        int needed = sight.untilAll(world.state);
        return needed > FAR ? NOT_THERE : world.state.moment + needed;
    }

    public int rota(int n, int what) {
        if (!world.plan.told || n < 1 || n > Choices.ROTA_MOST || what < 0 || what > Choices.ROTA_MOST) {
            return NONE;
        }
        if (what > n) {
            return NOT_THERE;
        }
        forge.plain(null);
        return choices.bestRota(world.state, n, what);
    }

    public int round(int what) {
        if (!world.plan.told || what < 0 || what > SMITHS) {
            return NONE;
        }
        if (what > world.plan.smiths) {
            return NOT_THERE;
        }
        forge.plain(ruleInForce());
        return wheel.turn(world.state, what);
    }

    public int beside(int what) {
        if (!world.plan.told || what < 0 || what > SMITHS + 1) {
            return NOT_ASKED;
        }
        if (what - 2 >= world.plan.smiths) {
            return NOT_THERE;
        }
        return choices.bestBeside(world.state, what);
    }

    public int worth(int smith, int n) {
        if (!hasSmith(smith) || n < 1 || n > 60) {
            return NO_NUMBER;
        }
        forge.plain(ruleInForce());
        int with = sight.blowsOfOthers(world.state, smith, n);
        forge.absent = smith;
        return sight.blowsOfOthers(world.state, smith, n) - with;
    }

    public int splits(int part, int what) {
        if (!hasPart(part) || what < 0 || what > 1) {
            return NOT_ASKED;
        }
        if (world.state.wear[part] >= world.plan.strength) {
            return NONE;
        }
        forge.plain(ruleInForce());
        return sight.splitting(world.state, part, what);
    }

    public int order(int smith, int what) {
        if (!hasSmith(smith) || what < 0 || what > Choices.ORDER_MOST) {
            return NONE;
        }
        if (world.state.toDo(world.plan, smith) > Choices.ORDER_MOST) {
            return NOT_ASKED;
        }
        forge.plain(ruleInForce());
        return choices.bestOrder(world.state, smith, what);
    }

    public int second() {
        if (!world.plan.told) {
            return NO_NUMBER;
        }
        forge.plain(ruleInForce());
        int alone = Math.min(FAR, sight.untilAll(world.state));
        forge.second = true;
        return alone - Math.min(FAR, sight.untilAll(world.state));
    }

    public int seed(int x) {
        if (x < 0) {
            return NONE;
        }
        int before = world.x;
        world.x = x;
        return before;
    }

    public int days(int m, int n, int p, int what) {
        if (!world.plan.told || m < 1 || m > 10 || n < 1 || n > 99) {
            return NONE;
        }
        if (p < 0 || p > 100 || what < 0 || what > 1) {
            return NONE;
        }
        forge.plain(ruleInForce());
        sight.live(world, m, n, p);
        return what == 0 ? sight.blows : sight.burns;
    }

    // ---- Notes

    public int note(int n, int part, int worn) {
        if (n == NONE) {
            world.notes.count = 0;
            return 0;
        }
        if (!hasPart(part) || n < 0 || n >= Notes.MOMENTS || worn < 0 || worn > WORN_MOST) {
            return NOT_THERE;
        }
        if (world.notes.count >= Notes.ROOM) {
            return NOT_THERE;
        }
        world.notes.add(n, part, worn);
        return world.notes.count;
    }

    public int ruled(int what) {
        if (!world.plan.told || what < 0 || what > 1) {
            return NOT_ASKED;
        }
        clues.weigh(rules, ruleCount, world.notes, NONE);
        if (what == 0) {
            return clues.fitting;
        }
        return clues.fitting == 0 ? NOT_THERE : clues.first;
    }

    public int look(int n, int what) {
        if (!world.plan.told || n < 0 || n >= Notes.MOMENTS || what < 0 || what > 1) {
            return NONE;
        }
        clues.weigh(rules, ruleCount, world.notes, n);
        if (clues.fitting == 0) {
            return NOT_THERE;
        }
        int part = clues.partingPart();
        return what == 0 ? part : clues.mostAlike(part);
    }

    // ---- Images

    public int image(int k) {
        if (k < 0 || k >= IMAGES) {
            return NONE;
        }
        images[k].copyFrom(world);
        made[k] = true;
        return world.state.moment;
    }

    public int back(int k) {
        if (k < 0 || k >= IMAGES || !made[k]) {
            return NONE;
        }
        world.copyFrom(images[k]);
        pastCount = 0;
        return world.state.moment;
    }

    // ---- Help for the above

    private boolean hasSmith(int smith) {
        return smith >= 0 && smith < world.plan.smiths;
    }

    private boolean hasJob(int job) {
        return job >= 0 && job < world.plan.jobs;
    }

    private boolean hasPart(int part) {
        return world.plan.told && part >= 0 && part < PARTS;
    }

    private Program ruleInForce() {
        int k = world.inForce;
        return k >= 0 && k < ruleCount ? rules[k] : null;
    }

    private void remember() {
        past[pastNext].copyFrom(world.state);
        pastNext = (pastNext + 1) % UNDOABLE;
        pastCount = Math.min(UNDOABLE, pastCount + 1);
    }

    private int earnedByAll() {
        int sum = 0;
        for (int smith = 0; smith < world.plan.smiths; smith++) {
            sum += world.state.earnedBy(world.plan, smith);
        }
        return sum;
    }

    private int splitBits() {
        int bits = 0;
        for (int part = 0; part < PARTS; part++) {
            if (world.plan.told && world.state.wear[part] >= world.plan.strength) {
                bits |= 1 << part;
            }
        }
        return bits;
    }

    /** The TAPE, and the place up to which it has been read. */
    private static final class Tape {
        static final int ROOM = 400;
        static final int END = -1;
        static final int ODD = 0;
        static final int WRONG_NUMBER = 1;
        static final int TOO_DEEP = 2;
        static final int TOO_LARGE = 3;
        static final int WRONG_CLAUSE = 4;
        private static final int DIGITS = 5;

        final int[] bytes = new int[ROOM];
        int length = 0;
        int at = 0;
        int fault = 0;

        void add(int number) {
            for (int shift = 24; shift >= 0; shift -= 8) {
                if (length < ROOM) {
                    bytes[length] = number >>> shift & 255;
                    length++;
                }
            }
        }

        void rewind() {
            at = 0;
            fault = 0;
        }

        /** The first FAULT found stays: the text is read from left to right. */
        void fail(int place, int code) {
            if (fault == 0) {
                fault = 1 + 8 * place + code;
            }
        }

        /** Passes blanks by: the byte behind them, or END. */
        int next() {
            while (at < length && bytes[at] == ' ') {
                at++;
            }
            return at < length ? bytes[at] : END;
        }

        private int run(char low, char high) {
            int to = at;
            while (to < length && bytes[to] >= low && bytes[to] <= high) {
                to++;
            }
            return to - at;
        }

        /** Which of the words of a list (blanks between them) stands here, or NONE. */
        int word(String list) {
            int letters = run('a', 'z');
            int index = 0;
            int same = 0;
            int size = 0;
            for (int i = 0; i <= list.length(); i++) {
                char sign = i < list.length() ? list.charAt(i) : ' ';
                if (sign != ' ') {
                    same += size < letters && bytes[at + size] == sign ? 1 : 0;
                    size++;
                } else if (size == letters && same == letters && letters > 0) {
                    return index;
                } else {
                    index++;
                    same = 0;
                    size = 0;
                }
            }
            return NONE;
        }

        void passWord() {
            at += run('a', 'z');
        }

        /** The NUMBER that stands behind blanks; the lowest one, and a FAULT, if there is none such. */
        int number(int low, int high) {
            next();
            int digits = run('0', '9');
            int value = 0;
            for (int i = 0; i < digits && i < DIGITS; i++) {
                value = value * 10 + bytes[at + i] - '0';
            }
            if (digits == 0) {
                fail(at, ODD);
            } else if (digits > DIGITS || value < low || value > high) {
                fail(at, WRONG_NUMBER);
            }
            at += digits;
            return fault != 0 ? low : value;
        }
    }

    /** A SMITHY as the text tells it. */
    private static final class Plan {
        private static final int CLAUSES = 40;
        private static final String KINDS = "smithy smith job part";
        private static final String PART_WORDS = "face beak heel weld";

        boolean told = false;
        int cool = 0;
        int burn = 0;
        int strength = 0;
        int smiths = 0;
        int jobs = 0;
        final int[] quick = new int[SMITHS];
        final int[] owner = new int[JOBS];
        final int[] part = new int[JOBS];
        final int[] bits = new int[JOBS];
        final int[] blows = new int[JOBS];
        final int[] need = new int[JOBS];
        final int[] pay = new int[JOBS];
        final int[] used = new int[PARTS];

        void copyFrom(Plan other) {
            told = other.told;
            cool = other.cool;
            burn = other.burn;
            strength = other.strength;
            smiths = other.smiths;
            jobs = other.jobs;
            for (int k = 0; k < SMITHS; k++) {
                quick[k] = other.quick[k];
            }
            for (int k = 0; k < JOBS; k++) {
                owner[k] = other.owner[k];
                part[k] = other.part[k];
                bits[k] = other.bits[k];
                blows[k] = other.blows[k];
                need[k] = other.need[k];
                pay[k] = other.pay[k];
            }
            for (int k = 0; k < PARTS; k++) {
                used[k] = other.used[k];
            }
        }

        /** Reads the text of a TAPE: its FAULT, or 0. */
        int read(Tape tape) {
            told = true;
            smiths = 0;
            jobs = 0;
            for (int k = 0; k < PARTS; k++) {
                used[k] = 0;
            }
            tape.rewind();
            for (int clause = 0; clause <= CLAUSES && tape.fault == 0; clause++) {
                readClause(tape, clause);
                int next = tape.next();
                if (tape.fault == 0 && next == Tape.END) {
                    return 0;
                }
                if (next != ';') {
                    tape.fail(tape.at, Tape.ODD);
                }
                tape.at++;
            }
            return tape.fault;
        }

        private void readClause(Tape tape, int clause) {
            tape.next();
            int kind = tape.word(KINDS);
            if (kind == NONE) {
                tape.fail(tape.at, Tape.ODD);
                return;
            }
            boolean tooMany = clause >= CLAUSES || kind == 1 && smiths >= SMITHS || kind == 2 && jobs >= JOBS;
            if (tooMany || (kind == 0) != (clause == 0)) {
                tape.fail(tape.at, Tape.WRONG_CLAUSE);
                return;
            }
            tape.passWord();
            if (kind == 0) {
                cool = tape.number(1, 9);
                burn = tape.number(20, 99);
                strength = tape.number(1, 999);
            } else if (kind == 1) {
                quick[smiths] = tape.number(1, 20);
                smiths++;
            } else if (kind == 2) {
                readJob(tape);
            } else {
                int which = tape.number(0, PARTS - 1);
                used[which] = tape.number(0, 999);
            }
        }

        private void readJob(Tape tape) {
            owner[jobs] = tape.number(0, smiths - 1);
            tape.next();
            int which = tape.word(PART_WORDS);
            if (which == NONE) {
                tape.fail(tape.at, Tape.ODD);
                return;
            }
            tape.passWord();
            part[jobs] = which;
            bits[jobs] = which == WELD ? WELD_BITS : 1 << which;
            blows[jobs] = tape.number(1, 30);
            need[jobs] = tape.number(1, 50);
            pay[jobs] = tape.number(0, 50);
            jobs++;
        }
    }

    /** How all stands at the begin of a MOMENT. */
    private static final class State {
        int moment = 0;
        final int[] heat = new int[SMITHS];
        final int[] waits = new int[SMITHS];
        final int[] done = new int[SMITHS];
        final int[] burnt = new int[SMITHS];
        final int[] cold = new int[SMITHS];
        final int[] left = new int[JOBS];
        final int[] since = new int[JOBS];
        final int[] rank = new int[JOBS];
        final int[] wear = new int[PARTS + 1];

        void copyFrom(State other) {
            moment = other.moment;
            for (int k = 0; k < SMITHS; k++) {
                heat[k] = other.heat[k];
                waits[k] = other.waits[k];
                done[k] = other.done[k];
                burnt[k] = other.burnt[k];
                cold[k] = other.cold[k];
            }
            for (int k = 0; k < JOBS; k++) {
                left[k] = other.left[k];
                since[k] = other.since[k];
                rank[k] = other.rank[k];
            }
            for (int k = 0; k <= PARTS; k++) {
                wear[k] = other.wear[k];
            }
        }

        void begin(Plan plan) {
            moment = 0;
            for (int k = 0; k < SMITHS; k++) {
                heat[k] = 0;
                waits[k] = 0;
                done[k] = 0;
                burnt[k] = 0;
                cold[k] = 0;
            }
            for (int k = 0; k < JOBS; k++) {
                left[k] = plan.blows[k];
                since[k] = NONE;
                rank[k] = k;
            }
            for (int k = 0; k < PARTS; k++) {
                wear[k] = plan.used[k];
            }
            wear[SECOND_FACE] = 0;
        }

        boolean isToDo(Plan plan, int smith, int job) {
            return plan.owner[job] == smith && left[job] > 0;
        }

        int jobOf(Plan plan, int smith) {
            int first = NONE;
            for (int job = 0; job < plan.jobs; job++) {
                if (isToDo(plan, smith, job) && (first == NONE || rank[job] < rank[first])) {
                    first = job;
                }
            }
            return first;
        }

        int toDo(Plan plan, int smith) {
            int sum = 0;
            for (int job = 0; job < plan.jobs; job++) {
                sum += isToDo(plan, smith, job) ? 1 : 0;
            }
            return sum;
        }

        /** The JOB of a SMITH becomes the last one of theirs. */
        void putLast(Plan plan, int smith) {
            int moved = jobOf(plan, smith);
            int last = 0;
            for (int job = 0; job < plan.jobs; job++) {
                last = Math.max(last, rank[job]);
            }
            if (moved != NONE) {
                rank[moved] = last + 1;
            }
        }

        int doneBits(Plan plan) {
            int bits = 0;
            for (int job = 0; job < plan.jobs; job++) {
                bits |= left[job] == 0 ? 1 << job : 0;
            }
            return bits;
        }

        boolean allDone(Plan plan) {
            for (int job = 0; job < plan.jobs; job++) {
                if (left[job] > 0) {
                    return false;
                }
            }
            return true;
        }

        int earnedBy(Plan plan, int smith) {
            int sum = 0;
            for (int job = 0; job < plan.jobs; job++) {
                sum += plan.owner[job] == smith && left[job] == 0 ? plan.pay[job] : 0;
            }
            return sum;
        }
    }

    /** What was told of parts at the begin of MOMENTS. */
    private static final class Notes {
        static final int ROOM = 10;
        static final int MOMENTS = 100;

        int count = 0;
        final int[] at = new int[ROOM];
        final int[] part = new int[ROOM];
        final int[] wear = new int[ROOM];

        void copyFrom(Notes other) {
            count = other.count;
            for (int k = 0; k < ROOM; k++) {
                at[k] = other.at[k];
                part[k] = other.part[k];
                wear[k] = other.wear[k];
            }
        }

        void add(int n, int which, int worn) {
            if (count < ROOM) {
                at[count] = n;
                part[count] = which;
                wear[count] = worn;
                count++;
            }
        }

        int latest() {
            int last = NONE;
            for (int k = 0; k < count; k++) {
                last = Math.max(last, at[k]);
            }
            return last;
        }

        boolean agree(int n, State then) {
            for (int k = 0; k < count; k++) {
                if (at[k] == n && then.wear[part[k]] != wear[k]) {
                    return false;
                }
            }
            return true;
        }
    }

    /** All that an IMAGE holds. */
    private static final class World {
        final Plan plan = new Plan();
        final State state = new State();
        final Notes notes = new Notes();
        int inForce = NONE;
        int x = 0;

        void copyFrom(World other) {
            plan.copyFrom(other.plan);
            state.copyFrom(other.state);
            notes.copyFrom(other.notes);
            inForce = other.inForce;
            x = other.x;
        }
    }

    /** A RULE, as a row of signs behind the values that they join. */
    private static final class Program {
        static final int WORD_COUNT = 13;
        private static final int CLAUSES = 12;
        private static final int DEEPEST = 10;
        private static final int LARGEST = 60;
        private static final int NUMBER_MOST = 99999;
        private static final String WORDS =
            "smith heat hot need left pay quick moment worn rivals waits burn done";
        // In the row a number stands for itself, a word for -1 - its place among WORDS.
        private static final int ADD = -20;
        private static final int SUBTRACT = -21;
        private static final int MULTIPLY = -22;
        private static final int DIVIDE = -23;
        private static final int REST = -24;
        private static final int LESS = -25;
        private static final int LESS_OR_SAME = -26;
        private static final int SAME = -27;
        private static final int MORE_OR_SAME = -28;
        private static final int MORE = -29;
        private static final int NEITHER = -30;
        private static final int AND = -31;
        private static final int OR = -32;

        private final int[] row = new int[Tape.ROOM];
        private int length = 0;
        private int size = 0;
        private int clauses = 0;
        private final int[] sumFrom = new int[CLAUSES];
        private final int[] testFrom = new int[CLAUSES];
        private final int[] testTo = new int[CLAUSES];
        private final long[] stack = new long[LARGEST + 1];

        /** Reads the text of a TAPE: its FAULT, or 0. */
        int read(Tape tape) {
            length = 0;
            size = 0;
            clauses = 0;
            tape.rewind();
            for (int clause = 0; clause < CLAUSES; clause++) {
                passStrike(tape, false);
                sumFrom[clause] = length;
                readSum(tape);
                testFrom[clause] = length;
                tape.next();
                if (tape.word("if") != NONE) {
                    tape.passWord();
                    readTest(tape, 0);
                }
                testTo[clause] = length;
                clauses = clause + 1;
                int next = tape.next();
                if (tape.fault != 0 || next == Tape.END) {
                    return tape.fault;
                }
                if (next != ';') {
                    tape.fail(tape.at, Tape.ODD);
                }
                tape.at++;
            }
            passStrike(tape, true);
            return tape.fault;
        }

        private static void passStrike(Tape tape, boolean tooMany) {
            tape.next();
            if (tape.word("strike") == NONE) {
                tape.fail(tape.at, Tape.ODD);
            } else if (tooMany) {
                tape.fail(tape.at, Tape.WRONG_CLAUSE);
            }
            tape.passWord();
        }

        private void put(int sign) {
            if (length < row.length) {
                row[length] = sign;
                length++;
            }
        }

        /** An "or" waits until the "and"s behind it are put. */
        private void readTest(Tape tape, int depth) {
            readFact(tape, depth);
            boolean waiting = false;
            for (int n = 0; n < Tape.ROOM && tape.fault == 0; n++) {
                tape.next();
                int joint = tape.word("and or");
                if (joint == NONE) {
                    break;
                }
                tape.passWord();
                if (joint == 1 && waiting) {
                    put(OR);
                }
                readFact(tape, depth);
                if (joint == 0) {
                    put(AND);
                } else {
                    waiting = true;
                }
            }
            if (waiting) {
                put(OR);
            }
        }

        private void readFact(Tape tape, int depth) {
            boolean opens = tape.next() == '[';
            boolean negates = tape.word("not") != NONE;
            if (!opens && !negates) {
                readSum(tape);
                int sign = readSign(tape);
                readSum(tape);
                put(sign);
            } else if (depth >= DEEPEST) {
                tape.fail(tape.at, Tape.TOO_DEEP);
            } else if (negates) {
                tape.passWord();
                readFact(tape, depth + 1);
                put(NEITHER);
            } else {
                tape.at++;
                readTest(tape, depth + 1);
                if (tape.next() != ']') {
                    tape.fail(tape.at, Tape.ODD);
                }
                tape.at++;
            }
        }

        private int readSign(Tape tape) {
            int first = tape.next();
            if (first != '<' && first != '=' && first != '>') {
                tape.fail(tape.at, Tape.ODD);
                return SAME;
            }
            if (size >= LARGEST) {
                tape.fail(tape.at, Tape.TOO_LARGE);
            }
            size++;
            tape.at++;
            if (first == '=') {
                return SAME;
            }
            boolean orSame = tape.at < tape.length && tape.bytes[tape.at] == '=';
            if (orSame) {
                tape.at++;
            }
            if (first == '<') {
                return orSame ? LESS_OR_SAME : LESS;
            }
            return orSame ? MORE_OR_SAME : MORE;
        }

        /** A + or - waits until the * / % behind it are put. */
        private void readSum(Tape tape) {
            readValue(tape);
            int waiting = 0;
            for (int n = 0; n < Tape.ROOM && tape.fault == 0; n++) {
                int sign = signOf(tape.next());
                if (sign == 0) {
                    break;
                }
                tape.at++;
                boolean adds = sign == ADD || sign == SUBTRACT;
                if (adds && waiting != 0) {
                    put(waiting);
                }
                readValue(tape);
                if (adds) {
                    waiting = sign;
                } else {
                    put(sign);
                }
            }
            if (waiting != 0) {
                put(waiting);
            }
        }

        private static int signOf(int sign) {
            switch (sign) {
                case '+': return ADD;
                case '-': return SUBTRACT;
                case '*': return MULTIPLY;
                case '/': return DIVIDE;
                case '%': return REST;
                default: return 0;
            }
        }

        private void readValue(Tape tape) {
            int first = tape.next();
            int place = tape.at;
            int value;
            if (first >= 'a' && first <= 'z') {
                int word = tape.word(WORDS);
                if (word == NONE) {
                    tape.fail(place, Tape.ODD);
                }
                tape.passWord();
                value = -1 - word;
            } else {
                value = tape.number(0, NUMBER_MOST);
            }
            if (size >= LARGEST) {
                tape.fail(place, Tape.TOO_LARGE);
            }
            size++;
            put(value);
        }

        boolean strikes(long[] words) {
            for (int k = 0; k < clauses && k < CLAUSES; k++) {
                if (testFrom[k] == testTo[k] || worked(testFrom[k], testTo[k], words) != 0) {
                    return worked(sumFrom[k], testFrom[k], words) > 0;
                }
            }
            return false;
        }

        private long worked(int from, int to, long[] words) {
            int top = 0;
            for (int i = from; i < to; i++) {
                int sign = row[i];
                if (sign > ADD) {
                    if (top < stack.length && -1 - sign < words.length) {
                        stack[top] = sign >= 0 ? sign : words[-1 - sign];
                        top++;
                    }
                } else if (sign == NEITHER) {
                    if (top > 0) {
                        stack[top - 1] = 1 - stack[top - 1];
                    }
                } else if (top > 1) {
                    top--;
                    long a = stack[top - 1];
                    long b = stack[top];
                    switch (sign) {
                        case ADD: a = a + b; break;
                        case SUBTRACT: a = a - b; break;
                        case MULTIPLY: a = a * b; break;
                        case DIVIDE: a = b == 0 ? 0 : a / b; break;
                        case REST: a = b == 0 ? 0 : a % b; break;
                        case LESS: a = a < b ? 1 : 0; break;
                        case LESS_OR_SAME: a = a <= b ? 1 : 0; break;
                        case SAME: a = a == b ? 1 : 0; break;
                        case MORE_OR_SAME: a = a >= b ? 1 : 0; break;
                        case MORE: a = a > b ? 1 : 0; break;
                        case AND: a = a & b; break;
                        default: a = a | b; break;
                    }
                    stack[top - 1] = a;
                }
            }
            return top > 0 ? stack[0] : 0;
        }
    }

    /** Lets MOMENTS go by, as they are or as they would be if one thing were otherwise. */
    private static final class Forge {
        private final Plan plan;
        private Program rule = null;
        /** The SMITH who is not there, or NONE. */
        int absent = NONE;
        /** The SMITHS who strike whatever a RULE says, as bits, or NONE. */
        int chosen = NONE;
        boolean second = false;
        boolean fireless = false;
        boolean endless = false;
        final int[] job = new int[SMITHS];
        final boolean[] wills = new boolean[SMITHS];
        final int[] taker = new int[PARTS + 1];
        private final long[] words = new long[Program.WORD_COUNT];
        int blows = 0;
        int struck = 0;
        int burns = 0;

        Forge(Plan plan) {
            this.plan = plan;
        }

        /** Nothing is otherwise. */
        void plain(Program inForce) {
            rule = inForce;
            absent = NONE;
            chosen = NONE;
            second = false;
            fireless = false;
            endless = false;
        }

        void go(State s) {
            assign(s);
            for (int smith = 0; smith < SMITHS; smith++) {
                wills[smith] = job[smith] != NONE && willsToStrike(s, smith);
            }
            work(s);
            for (int part = 0; part <= PARTS; part++) {
                if (taker[part] != NONE && s.wear[part] < WORN_MOST) {
                    s.wear[part]++;
                }
            }
            s.moment = Math.min(LAST_MOMENT, s.moment + 1);
        }

        void assign(State s) {
            for (int smith = 0; smith < SMITHS; smith++) {
                job[smith] = smith == absent ? NONE : s.jobOf(plan, smith);
            }
        }

        boolean willsToStrike(State s, int smith) {
            if (chosen != NONE) {
                return (chosen >> smith & 1) == 1;
            }
            if (rule == null) {
                return isHot(s, smith);
            }
            fillWords(s, smith);
            return rule.strikes(words);
        }

        private boolean isHot(State s, int smith) {
            return s.heat[smith] >= plan.need[job[smith]];
        }

        private void fillWords(State s, int smith) {
            int own = job[smith];
            words[0] = smith;
            words[1] = s.heat[smith];
            words[2] = isHot(s, smith) ? 1 : 0;
            words[3] = plan.need[own];
            words[4] = s.left[own];
            words[5] = plan.pay[own];
            words[6] = plan.quick[smith];
            words[7] = s.moment;
            words[8] = plan.part[own] == WELD ? Math.max(s.wear[0], s.wear[1]) : s.wear[plan.part[own]];
            words[9] = rivals(smith);
            words[10] = s.waits[smith];
            words[11] = plan.burn - s.heat[smith];
            words[12] = s.done[smith];
        }

        private int rivals(int smith) {
            int sum = 0;
            for (int other = 0; other < SMITHS; other++) {
                if (other != smith && job[other] != NONE) {
                    sum += (plan.bits[job[other]] & plan.bits[job[smith]]) != 0 ? 1 : 0;
                }
            }
            return sum;
        }

        /** Each does as they will; what is worn is not yet told to the parts. */
        void work(State s) {
            blows = 0;
            struck = 0;
            burns = 0;
            for (int part = 0; part <= PARTS; part++) {
                taker[part] = NONE;
            }
            for (int smith = 0; smith < SMITHS; smith++) {
                if (job[smith] != NONE) {
                    if (!wills[smith]) {
                        heatUp(s, smith);
                    } else if (takes(s, smith)) {
                        strikeOnce(s, smith);
                    } else {
                        s.waits[smith]++;
                        s.heat[smith] = Math.max(0, s.heat[smith] - plan.cool);
                    }
                }
            }
        }

        private void heatUp(State s, int smith) {
            s.waits[smith] = 0;
            if (!fireless) {
                s.heat[smith] += plan.quick[smith];
            }
            if (s.heat[smith] > plan.burn) {
                s.heat[smith] = 0;
                s.left[job[smith]] = plan.blows[job[smith]];
                s.burnt[smith]++;
                burns++;
            }
        }

        private boolean takes(State s, int smith) {
            int bits = plan.bits[job[smith]];
            if (second && bits == FACE_BIT && !isFree(s, 0)) {
                bits = 1 << SECOND_FACE;
            }
            for (int part = 0; part <= PARTS; part++) {
                if ((bits >> part & 1) == 1 && !isFree(s, part)) {
                    return false;
                }
            }
            for (int part = 0; part <= PARTS; part++) {
                if ((bits >> part & 1) == 1) {
                    taker[part] = smith;
                }
            }
            return true;
        }

        private boolean isFree(State s, int part) {
            return taker[part] == NONE && s.wear[part] < plan.strength;
        }

        private void strikeOnce(State s, int smith) {
            int own = job[smith];
            boolean hot = isHot(s, smith);
            s.waits[smith] = 0;
            s.heat[smith] = Math.max(0, s.heat[smith] - plan.cool);
            if (!hot) {
                s.cold[smith]++;
                return;
            }
            blows++;
            struck |= 1 << smith;
            if (endless) {
                return;
            }
            s.left[own]--;
            if (s.left[own] == 0) {
                s.heat[smith] = 0;
                s.done[smith]++;
                s.since[own] = Math.min(LAST_MOMENT, s.moment + 1);
            }
        }
    }

    /** What comes if all goes on. */
    private static final class Sight {
        private final Plan plan;
        private final Forge forge;
        private final State then = new State();
        int blows = 0;
        int burns = 0;

        Sight(Plan plan, Forge forge) {
            this.plan = plan;
            this.forge = forge;
        }

        State goOn(State now, int n) {
            then.copyFrom(now);
            for (int k = 0; k < n; k++) {
                forge.go(then);
            }
            return then;
        }

        int readyAt(State now, int job) {
            then.copyFrom(now);
            for (int n = 0; n < FAR && then.left[job] > 0; n++) {
                forge.go(then);
            }
            return then.left[job] > 0 ? NOT_THERE : then.since[job];
        }

        /** In how many MOMENTS all JOBS are done; more than FAR, if they are not. */
        int untilAll(State now) {
            then.copyFrom(now);
            for (int n = 0; n <= FAR; n++) {
                if (then.allDone(plan)) {
                    return n;
                }
                forge.go(then);
            }
            return FAR + 1;
        }

        int blowsOfOthers(State now, int smith, int n) {
            int sum = 0;
            then.copyFrom(now);
            for (int k = 0; k < n; k++) {
                forge.go(then);
                sum += Integer.bitCount(forge.struck & ~(1 << smith));
            }
            return sum;
        }

        int splitting(State now, int part, int what) {
            then.copyFrom(now);
            for (int n = 0; n < FAR; n++) {
                int moment = then.moment;
                forge.go(then);
                if (then.wear[part] >= plan.strength) {
                    return what == 0 ? moment : forge.taker[part];
                }
            }
            return NOT_THERE;
        }

        void live(World world, int m, int n, int p) {
            long x = world.x;
            blows = 0;
            burns = 0;
            for (int day = 0; day < m; day++) {
                then.copyFrom(world.state);
                for (int k = 0; k < n; k++) {
                    x = (x * 1103515245L + 12345L) % 2147483648L;
                    forge.fireless = x / 65536L % 100L < p;
                    forge.go(then);
                    blows += forge.blows;
                    burns += forge.burns;
                }
            }
        }
    }

    /** The best of several ways: ROTA, ORDER, BESIDE. */
    private static final class Choices {
        static final int ROTA_MOST = 4;
        static final int ORDER_MOST = 5;

        private final Plan plan;
        private final Forge forge;
        private final State[] steps = new State[ORDER_MOST + 1];
        private final int[] row = new int[ORDER_MOST];
        private final int[] bestRow = new int[ORDER_MOST];
        private final int[] todo = new int[ORDER_MOST];
        private int total = 0;
        private int best = 0;
        private int bestPay = 0;
        private int orderer = 0;

        Choices(Plan plan, Forge forge) {
            this.plan = plan;
            this.forge = forge;
            for (int k = 0; k <= ORDER_MOST; k++) {
                steps[k] = new State();
            }
        }

        private void keepRow() {
            for (int k = 0; k < ORDER_MOST; k++) {
                bestRow[k] = row[k];
            }
        }

        int bestRota(State now, int n, int what) {
            steps[0].copyFrom(now);
            total = Math.min(n, ROTA_MOST);
            best = NONE;
            chooseSets(0, 0);
            return what >= 1 && what <= ROTA_MOST ? bestRow[what - 1] : best;
        }

        private void chooseSets(int depth, int blows) {
            if (depth >= total) {
                if (blows > best) {
                    best = blows;
                    keepRow();
                }
                return;
            }
            int workers = workers(steps[depth]);
            for (int set = 0; set < 1 << SMITHS; set++) {
                if ((set & ~workers) == 0) {
                    State after = steps[depth + 1];
                    after.copyFrom(steps[depth]);
                    forge.chosen = set;
                    forge.go(after);
                    row[depth] = set;
                    chooseSets(depth + 1, blows + forge.blows);
                }
            }
        }

        private int workers(State s) {
            int bits = 0;
            for (int smith = 0; smith < plan.smiths; smith++) {
                bits |= s.toDo(plan, smith) > 0 ? 1 << smith : 0;
            }
            return bits;
        }

        int bestOrder(State now, int smith, int what) {
            steps[0].copyFrom(now);
            orderer = smith;
            total = 0;
            for (int job = 0; job < plan.jobs && total < ORDER_MOST; job++) {
                if (now.isToDo(plan, smith, job)) {
                    todo[total] = job;
                    total++;
                }
            }
            best = total == 0 ? 0 : FAR + 1;
            chooseJobs(0, 0);
            if (best > FAR || what > total) {
                return NOT_THERE;
            }
            return what >= 1 && what <= ORDER_MOST ? bestRow[what - 1] : now.moment + best;
        }

        /** Orders that begin alike go the same way until they part: so long they are gone through once. */
        private void chooseJobs(int depth, int gone) {
            if (depth >= total) {
                return;
            }
            for (int k = 0; k < total; k++) {
                State after = steps[depth + 1];
                after.copyFrom(steps[depth]);
                if (after.left[todo[k]] > 0) {
                    row[depth] = todo[k];
                    putFirst(after, todo[k], depth == 0);
                    int needed = gone;
                    while (needed < best - 1 && after.left[todo[k]] > 0) {
                        forge.go(after);
                        needed++;
                    }
                    if (after.left[todo[k]] == 0 && depth + 1 < total) {
                        chooseJobs(depth + 1, needed);
                    } else if (after.left[todo[k]] == 0) {
                        best = needed;
                        keepRow();
                    }
                }
            }
        }

        private void putFirst(State s, int job, boolean now) {
            if (now && job != s.jobOf(plan, orderer)) {
                s.heat[orderer] = 0;
            }
            s.rank[job] = -1;
        }

        int bestBeside(State now, int what) {
            steps[0].copyFrom(now);
            best = NONE;
            bestPay = NONE;
            for (int k = 0; k < ORDER_MOST; k++) {
                row[k] = NONE;
            }
            chooseBeside(0, 0, 0, 0);
            if (what == 0) {
                return best;
            }
            return what >= 2 && what - 2 < SMITHS ? bestRow[what - 2] : bestPay;
        }

        private void chooseBeside(int smith, int taken, int jobs, int pay) {
            if (smith >= plan.smiths) {
                if (jobs > best || jobs == best && pay > bestPay) {
                    best = jobs;
                    bestPay = pay;
                    keepRow();
                }
                return;
            }
            row[smith] = NONE;
            chooseBeside(smith + 1, taken, jobs, pay);
            for (int job = 0; job < plan.jobs; job++) {
                if (steps[0].isToDo(plan, smith, job) && (plan.bits[job] & taken) == 0) {
                    row[smith] = job;
                    chooseBeside(smith + 1, taken | plan.bits[job], jobs + 1, pay + plan.pay[job]);
                }
            }
        }
    }

    /** The ROUND of the HEATS. */
    private static final class Wheel {
        private static final int HEATS = 100;
        // Far above twice the million of HEATS that there can be.
        private static final int STEPS_MOST = 4000000;

        private final Plan plan;
        private final Forge forge;
        private final State spin = new State();
        private final boolean[] strikes = new boolean[SMITHS * HEATS];
        private final int[] mark = new int[SMITHS];
        private final int[] blows = new int[SMITHS];

        Wheel(Plan plan, Forge forge) {
            this.plan = plan;
            this.forge = forge;
        }

        /**
         * The mark is set anew after 1, 2, 4, 8.. MOMENTS, until the HEATS come to it again: by then it
         * stands in the ROUND.
         */
        int turn(State now, int what) {
            spin.copyFrom(now);
            forge.endless = true;
            forge.assign(spin);
            fillStrikes(now);
            setMark();
            int since = 0;
            int size = 1;
            for (int n = 0; n < STEPS_MOST; n++) {
                spinOnce();
                since++;
                if (isAtMark()) {
                    break;
                }
                if (since == size) {
                    setMark();
                    since = 0;
                    size *= 2;
                }
            }
            return what >= 1 && what <= SMITHS ? blows[what - 1] : since;
        }

        /** All else stays, so that who wills what hangs on their HEAT alone. */
        private void fillStrikes(State now) {
            for (int smith = 0; smith < SMITHS; smith++) {
                for (int heat = 0; heat < HEATS; heat++) {
                    spin.heat[smith] = heat;
                    strikes[smith * HEATS + heat] =
                        forge.job[smith] != NONE && forge.willsToStrike(spin, smith);
                }
                spin.heat[smith] = now.heat[smith];
            }
        }

        private void spinOnce() {
            for (int smith = 0; smith < SMITHS; smith++) {
                int heat = Math.max(0, Math.min(HEATS - 1, spin.heat[smith]));
                forge.wills[smith] = strikes[smith * HEATS + heat];
            }
            forge.work(spin);
            for (int smith = 0; smith < SMITHS; smith++) {
                blows[smith] += forge.struck >> smith & 1;
            }
        }

        private void setMark() {
            for (int smith = 0; smith < SMITHS; smith++) {
                mark[smith] = spin.heat[smith];
                blows[smith] = 0;
            }
        }

        private boolean isAtMark() {
            for (int smith = 0; smith < SMITHS; smith++) {
                if (mark[smith] != spin.heat[smith]) {
                    return false;
                }
            }
            return true;
        }
    }

    /** Which RULES the NOTES leave, and how they part. */
    private static final class Clues {
        private final Plan plan;
        private final Forge forge;
        private final State then = new State();
        private final int[] seen = new int[PARTS];
        private final int[][] wear = new int[PARTS][RULES + 1];
        int fitting = 0;
        int first = NONE;

        Clues(Plan plan, Forge forge) {
            this.plan = plan;
            this.forge = forge;
        }

        /** Tries no RULE and all of them against the NOTES, with an eye on the n-th MOMENT. */
        void weigh(Program[] rules, int ruleCount, Notes notes, int n) {
            fitting = 0;
            first = NONE;
            for (int k = NONE; k < ruleCount && k < rules.length; k++) {
                forge.plain(k == NONE ? null : rules[k]);
                if (fitting <= RULES && fits(notes, n)) {
                    first = fitting == 0 ? k : first;
                    for (int part = 0; part < PARTS; part++) {
                        wear[part][fitting] = seen[part];
                    }
                    fitting++;
                }
            }
        }

        private boolean fits(Notes notes, int n) {
            int last = Math.max(n, notes.latest());
            then.begin(plan);
            for (int moment = 0; moment <= last; moment++) {
                if (!notes.agree(moment, then)) {
                    return false;
                }
                if (moment == n) {
                    for (int part = 0; part < PARTS; part++) {
                        seen[part] = then.wear[part];
                    }
                }
                forge.go(then);
            }
            return true;
        }

        int mostAlike(int part) {
            int most = 0;
            for (int a = 0; a < fitting; a++) {
                int alike = 0;
                for (int b = 0; b < fitting; b++) {
                    alike += wear[part][a] == wear[part][b] ? 1 : 0;
                }
                most = Math.max(most, alike);
            }
            return most;
        }

        int partingPart() {
            int best = 0;
            for (int part = 1; part < PARTS; part++) {
                if (mostAlike(part) < mostAlike(best)) {
                    best = part;
                }
            }
            return best;
        }
    }
}
