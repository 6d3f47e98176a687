import java.util.Arrays;
import java.util.NoSuchElementException;

/** A roundhouse: engines in stalls round a turntable, and the morning that they go out to. */
public final class EnginesAsleep {
    public static final int NONE = -1;

    private static final int CANNOT = -2;
    private static final int MISSING = -3;
    private static final int NO_FIRES = -5000;
    private static final int REFUSED_FIRES = -5001;

    private static final int FIRST_STALLS = 11;
    private static final int FEWEST_STALLS = 4;
    private static final int MOST_STALLS = 23;
    private static final int MOST_ENGINES = 12;
    private static final int MOST_TRAINS = 8;
    private static final int MOST_KEPT = 3;
    private static final int GRADES = 3;

    private static final int FIRST_LENGTH = 30;
    private static final int LEAST_LENGTH = 10;
    private static final int GREATEST_LENGTH = 60;

    /** More minutes than any run of calls can tell. */
    private static final int ENDLESS = 1000000000;

    private static final int FRONT_HOOD = 1;
    private static final int BACK_HOOD = 2;

    private final Ring circle;
    private final Fleet fleet;
    private final Rule law;
    private final Rows told;
    private final Standing live;
    private final Yard yard;
    private final Ways ways;
    private final Berths berths;
    private final Bunker bunker;
    private final Trains trains;
    private final Dawn dawn;
    private final Standing[] kept;
    private final int[] keptVersion;
    /** Grows whenever what is kept can be taken back no more. */
    private int version;

    public EnginesAsleep() {
        circle = new Ring();
        fleet = new Fleet();
        law = new Rule();
        told = new Rows();
        live = new Standing();
        yard = new Yard(circle, fleet, law);
        ways = new Ways(yard, told);
        berths = new Berths(yard, live, told);
        bunker = new Bunker(fleet, told);
        trains = new Trains(yard, live, told);
        dawn = new Dawn(yard, trains, live, told);
        kept = new Standing[MOST_KEPT];
        keptVersion = new int[MOST_KEPT];
        for (int i = 0; i < MOST_KEPT; i++) {
            kept[i] = new Standing();
            keptVersion[i] = NONE;
        }
        version = 0;
    }

    // ---- the ring

    public int ring(int n) {
        if (n < FEWEST_STALLS || n > MOST_STALLS || live.inStalls() != 0) {
            return NONE;
        }
        int before = circle.stalls;
        circle.renew(n);
        live.table = n;
        version++;
        return before;
    }

    public boolean stall(int stall, int length, int hoods) {
        if (!circle.hasStall(stall) || length < LEAST_LENGTH || length > GREATEST_LENGTH) {
            return false;
        }
        if (hoods < 0 || hoods > (FRONT_HOOD | BACK_HOOD) || yard.lengthIn(live, stall) > length) {
            return false;
        }
        circle.length[stall] = length;
        circle.hoods[stall] = hoods;
        version++;
        return true;
    }

    public int sheet(int kind, int n, int f, int step) {
        if (kind < 0 || kind > 3 || n > circle.stalls || live.inStalls() != 0) {
            return NONE;
        }
        if (kind == 3) {
            circle.readSheet(kind, 0, f, step);
            version++;
            return MISSING;
        }
        if (n < 0) {
            return CANNOT;
        }
        version++;
        return circle.readSheet(kind, n, f, step);
    }

    public boolean shut(int stall, boolean is) {
        if (!circle.hasStall(stall)) {
            return false;
        }
        circle.closed[stall] = is;
        return true;
    }

    public int set(int what, int v) {
        if (what == 0 && v >= 1 && v <= 9) {
            int before = circle.turn;
            circle.turn = v;
            return before;
        }
        if (what == 1 && v >= 0 && v <= 9) {
            int before = circle.go;
            circle.go = v;
            return before;
        }
        return NONE;
    }

    public int steps(int from, int to) {
        return circle.hasPoint(from) && circle.hasPoint(to) ? circle.stepsBetween(from, to) : NONE;
    }

    public int sign(int v) {
        return law.append(v);
    }

    public boolean end(int n) {
        return law.cut(n);
    }

    public int rule() {
        return law.adopt();
    }

    // ---- engines

    public int engine(int length, int kind, int raise, boolean visitor) {
        if (length < 5 || length > 30 || kind < 0 || kind > 5 || raise < 0 || raise > 600) {
            return NONE;
        }
        if (fleet.many >= MOST_ENGINES) {
            return NONE;
        }
        version++;
        return fleet.enlist(length, kind, raise, visitor);
    }

    public boolean light(int engine) {
        if (!fleet.has(engine) || live.litAt[engine] != NONE) {
            return false;
        }
        live.litAt[engine] = live.now;
        return true;
    }

    public int drop(int engine) {
        if (!fleet.has(engine) || live.litAt[engine] == NONE) {
            return NONE;
        }
        int minutes = live.now - live.litAt[engine];
        live.litAt[engine] = NONE;
        return minutes;
    }

    public boolean dead(int engine, boolean is) {
        if (!fleet.has(engine)) {
            return false;
        }
        live.dead = is ? live.dead | 1 << engine : live.dead & ~(1 << engine);
        return true;
    }

    public int of(int engine, int what) throws NoSuchElementException {
        if (!fleet.has(engine)) {
            throw new NoSuchElementException("no such engine");
        }
        switch (what) {
            case 0:
                return yard.pointOf(live, engine);
            case 1:
                return live.atBack(engine) ? 1 : 0;
            case 2:
                return fleet.kind[engine];
            case 3:
                return live.litAt[engine];
            case 4:
                return yard.inSteam(live, engine, live.now) ? 1 : 0;
            case 5:
                return live.inFrontOf(engine) != NONE ? 1 : 0;
            case 6:
                return yard.isHooded(live, engine) ? 1 : 0;
            default:
                throw new NoSuchElementException("nothing of that number is told of an engine");
        }
    }

    public int takes(int stall, int engine) {
        if (!circle.hasStall(stall) || !fleet.has(engine)) {
            return NONE;
        }
        return live.stallOf[engine] != stall && yard.takesIt(live, stall, engine) ? 1 : 0;
    }

    public int smoke() {
        return yard.smoking(live);
    }

    // ---- moves

    public int pass(int n) {
        if (n < 0 || n > 600) {
            return NONE;
        }
        live.now += n;
        return live.now;
    }

    public int move(int engine, int point) {
        if (!fleet.has(engine) || !circle.hasPoint(point)) {
            return NONE;
        }
        if (!yard.mayGo(live, engine, live.now) || !yard.canGoTo(live, engine, point)) {
            return NONE;
        }
        return yard.shift(live, engine, point, 1);
    }

    public int drag(int engine, int by, int point) {
        if (!fleet.has(engine) || !fleet.has(by) || by == engine || !circle.hasPoint(point)) {
            return NONE;
        }
        if (!live.onRoad(by) || !yard.mayGo(live, by, live.now) || !yard.canGoTo(live, engine, point)) {
            return NONE;
        }
        return yard.shift(live, engine, point, 2);
    }

    public int free(int engine) {
        if (!fleet.has(engine) || live.onRoad(engine)) {
            return NONE;
        }
        int minutes = yard.freeing(live, engine);
        if (minutes < 0) {
            return CANNOT;
        }
        told.tellOne(yard.asideTo);
        return minutes;
    }

    public int order(int engines) {
        int many = Integer.bitCount(engines);
        if (many < 1 || many > Ways.MOST_ORDERED || (engines & ~live.inStalls()) != 0) {
            return NONE;
        }
        return ways.bestOrder(live, engines);
    }

    public int clear(int stall) {
        return circle.hasStall(stall) ? ways.emptied(live, stall) : NONE;
    }

    public int under() {
        return ways.underHoods(live);
    }

    // ---- in and out

    public int comes(int engine) {
        return fleet.has(engine) && live.onRoad(engine) ? berths.tellComing(engine) : NONE;
    }

    public int leaves(int engine) {
        return fleet.has(engine) ? berths.tellLeaving(engine) : NONE;
    }

    public int nobody() {
        return berths.forget();
    }

    public int put() {
        return berths.bestPut();
    }

    public int room(int engines) {
        if (engines == 0 || fleet.hasOthers(engines) || (engines & live.inStalls()) != 0) {
            return NONE;
        }
        return berths.mostSeated(engines);
    }

    // ---- coal

    public int coal(int grade, int there, int stays) {
        if (grade < 0 || grade >= GRADES || there < 0 || there > 999 || stays < 0 || stays > 999) {
            return NONE;
        }
        int before = bunker.there[grade];
        bunker.there[grade] = there;
        bunker.stays[grade] = stays;
        return before;
    }

    public boolean wants(int engine, int tons, int grade) {
        if (!fleet.has(engine) || tons < 0 || tons > 40 || grade < 0 || grade >= GRADES) {
            return false;
        }
        fleet.tons[engine] = tons;
        fleet.grade[engine] = grade;
        return true;
    }

    public int coaled(int engines) {
        return bunker.canCount(engines) ? bunker.share(engines, false) : NONE;
    }

    public int fill(int engines) {
        return bunker.canCount(engines) ? bunker.share(engines, true) : NONE;
    }

    public int burns(int engines) {
        return bunker.canCount(engines) ? bunker.mostTogether(engines) : NONE;
    }

    // ---- trains

    public int train(int minute, int kind, int takes) {
        if (minute < 0 || minute > 2000 || kind < 0 || kind > 5 || takes < 1 || takes > 600) {
            return NONE;
        }
        return trains.many < MOST_TRAINS ? trains.enlist(minute, kind, takes) : NONE;
    }

    public boolean plan(int train, int engine) {
        if (!trains.has(train)) {
            return false;
        }
        if (engine != NONE) {
            if (!fleet.has(engine)) {
                return false;
            }
            int other = trains.trainOf(engine);
            if (other != NONE && other != train) {
                return false;
            }
        }
        trains.planned[train] = engine;
        return true;
    }

    public int fits(int engine, int train) {
        if (!fleet.has(engine) || !trains.has(train)) {
            return NONE;
        }
        return trains.suits(engine, train) ? 1 : 0;
    }

    public int most() {
        int had = trains.bestRow(NONE, false);
        told.empty();
        trains.tellChosen();
        return had;
    }

    public int fails(int engine) {
        if (!fleet.has(engine)) {
            return NONE;
        }
        int had = trains.bestRow(engine, true);
        told.tellOne(had);
        trains.tellChosen();
        return trains.parted;
    }

    public int soonest(int train) {
        return trains.has(train) ? trains.soonestFor(train) : NONE;
    }

    public int wrong() {
        return trains.badlyBehind();
    }

    public int exchange() {
        return dawn.bestExchange();
    }

    public int crews(int rest, int duty) {
        if (rest < 0 || rest > 600 || duty < 1 || duty > 2000) {
            return NONE;
        }
        return trains.fewestCrews(rest, duty);
    }

    // ---- fires

    public int fires(int w, int k) {
        if (w < 1 || w > 120 || k < 1 || k > Trains.MOST_MEN) {
            return REFUSED_FIRES;
        }
        int first = trains.beginFires(w, k);
        if (first != NO_FIRES) {
            trains.tellFires();
        }
        return first;
    }

    public int men(int w) {
        return w < 1 || w > 120 ? NONE : trains.fewestMen(w);
    }

    public int frost(int far) {
        return far < 0 || far > 12 ? NONE : ways.fewestWarm(live, far);
    }

    // ---- the morning

    public int morning() {
        int sum = dawn.goThrough();
        told.empty();
        for (int train = 0; train < trains.many; train++) {
            told.tell(dawn.late[train]);
        }
        return sum;
    }

    public int why(int train) {
        return trains.has(train) ? dawn.causeOf(train) : NONE;
    }

    // ---- kept

    public boolean keep(int i) {
        if (i < 0 || i >= MOST_KEPT) {
            return false;
        }
        kept[i].takeFrom(live);
        keptVersion[i] = version;
        return true;
    }

    public boolean again(int i) {
        if (i < 0 || i >= MOST_KEPT || keptVersion[i] != version) {
            return false;
        }
        live.takeFrom(kept[i]);
        return true;
    }

    public int count(int what) {
        switch (what) {
            case 0:
                return circle.stalls;
            case 1:
                return fleet.many;
            case 2:
                return live.now;
            case 3:
                return live.table;
            case 4:
                return trains.many;
            case 5:
                return berths.coming;
            case 6:
                return berths.leaving;
            case 7:
                return live.inStalls();
            case 8:
                return live.lit();
            case 9:
                return live.dead;
            case 10:
                return told.size;
            case 11:
                return law.signs;
            default:
                return NONE;
        }
    }

    public int inside(int stall) {
        if (!circle.hasStall(stall)) {
            return NONE;
        }
        told.empty();
        if (live.back[stall] != NONE) {
            told.tell(live.back[stall]);
        }
        if (live.front[stall] != NONE) {
            told.tell(live.front[stall]);
        }
        return told.size;
    }

    public int row(int i) throws NoSuchElementException {
        if (i < 0 || i >= told.size) {
            throw new NoSuchElementException("the row has no such number");
        }
        return told.numbers[i];
    }

    /** The ROW. Calls that are refused never touch it, so it is written only when an answer is sure. */
    private static final class Rows {
        /** A room() of all twelve engines tells the longest one. */
        private static final int LONGEST = 12;

        private final int[] numbers = new int[LONGEST];
        private int size = 0;

        void empty() {
            size = 0;
        }

        void tell(int number) {
            if (size < LONGEST) {
                numbers[size] = number;
                size++;
            }
        }

        void tellOne(int number) {
            empty();
            tell(number);
        }

        void tellTwo(int first, int second) {
            empty();
            tell(first);
            tell(second);
        }
    }

    /** THE RING: what its stalls are like, and how long its table takes. */
    private static final class Ring {
        private int stalls;
        private int turn = 1;
        private int go = 2;
        private final int[] length = new int[MOST_STALLS];
        private final int[] hoods = new int[MOST_STALLS];
        private final boolean[] closed = new boolean[MOST_STALLS];

        Ring() {
            renew(FIRST_STALLS);
        }

        void renew(int n) {
            stalls = n;
            for (int i = 0; i < MOST_STALLS; i++) {
                length[i] = FIRST_LENGTH;
                hoods[i] = FRONT_HOOD | BACK_HOOD;
                closed[i] = false;
            }
        }

        boolean hasStall(int stall) {
            return stall >= 0 && stall < stalls;
        }

        boolean hasPoint(int point) {
            return point >= 0 && point <= stalls;
        }

        int stepsBetween(int from, int to) {
            int apart = from < to ? to - from : from - to;
            int round = stalls + 1 - apart;
            return apart < round ? apart : round;
        }

        /** THE ROAD is no part of this ring: frost goes from the last stall to the first. */
        int stallsBetween(int one, int other) {
            int apart = one < other ? other - one : one - other;
            return Math.min(apart, stalls - apart);
        }

        boolean isHood(int stall, boolean atBack) {
            return (hoods[stall] & (atBack ? BACK_HOOD : FRONT_HOOD)) != 0;
        }

        int readSheet(int kind, int n, int f, int step) {
            int sum = 0;
            int entry = f;
            for (int i = 0; i < stalls; i++) {
                length[i] = i < n ? asLength(kind, entry) : FIRST_LENGTH;
                sum += length[i];
                entry += step;
            }
            return sum;
        }

        private static int asLength(int kind, int entry) {
            int read = kind == 0 ? (byte) entry : kind == 1 ? (short) entry : entry;
            return Math.min(GREATEST_LENGTH, Math.max(LEAST_LENGTH, read));
        }
    }

    /** Where all stand at a minute: what keep() keeps, and what a call that only tries things works on. */
    private static final class Standing {
        private int table = FIRST_STALLS;
        private int now = 0;
        private int dead = 0;
        private final int[] back = new int[MOST_STALLS];
        private final int[] front = new int[MOST_STALLS];
        /** NONE is THE ROAD, whose point changes with the ring. */
        private final int[] stallOf = new int[MOST_ENGINES];
        private final int[] litAt = new int[MOST_ENGINES];

        Standing() {
            Arrays.fill(back, NONE);
            Arrays.fill(front, NONE);
            Arrays.fill(stallOf, NONE);
            Arrays.fill(litAt, NONE);
        }

        void takeFrom(Standing other) {
            table = other.table;
            now = other.now;
            dead = other.dead;
            System.arraycopy(other.back, 0, back, 0, MOST_STALLS);
            System.arraycopy(other.front, 0, front, 0, MOST_STALLS);
            System.arraycopy(other.stallOf, 0, stallOf, 0, MOST_ENGINES);
            System.arraycopy(other.litAt, 0, litAt, 0, MOST_ENGINES);
        }

        boolean onRoad(int engine) {
            return stallOf[engine] == NONE;
        }

        boolean isDead(int engine) {
            return (dead >> engine & 1) != 0;
        }

        boolean atBack(int engine) {
            int stall = stallOf[engine];
            return stall != NONE && back[stall] == engine;
        }

        int inFrontOf(int engine) {
            return atBack(engine) ? front[stallOf[engine]] : NONE;
        }

        int inStalls() {
            int bits = 0;
            for (int engine = 0; engine < MOST_ENGINES; engine++) {
                if (stallOf[engine] != NONE) {
                    bits |= 1 << engine;
                }
            }
            return bits;
        }

        int lit() {
            int bits = 0;
            for (int engine = 0; engine < MOST_ENGINES; engine++) {
                if (litAt[engine] != NONE) {
                    bits |= 1 << engine;
                }
            }
            return bits;
        }

        /** The engine is the foremost of its stall, and the other stall has a place for it. */
        void bring(int engine, int stall) {
            int from = stallOf[engine];
            if (from != NONE) {
                if (back[from] == engine) {
                    back[from] = NONE;
                } else {
                    front[from] = NONE;
                }
            }
            stallOf[engine] = stall;
            if (stall != NONE) {
                if (back[stall] == NONE) {
                    back[stall] = engine;
                } else {
                    front[stall] = engine;
                }
            }
        }
    }

    /** What the engines are like. */
    private static final class Fleet {
        private int many = 0;
        private final int[] length = new int[MOST_ENGINES];
        private final int[] kind = new int[MOST_ENGINES];
        private final int[] raise = new int[MOST_ENGINES];
        private final boolean[] visitor = new boolean[MOST_ENGINES];
        private final int[] tons = new int[MOST_ENGINES];
        private final int[] grade = new int[MOST_ENGINES];

        boolean has(int engine) {
            return engine >= 0 && engine < many;
        }

        boolean hasOthers(int bits) {
            return bits >>> many != 0;
        }

        int enlist(int itsLength, int itsKind, int itsRaise, boolean visits) {
            int engine = many;
            length[engine] = itsLength;
            kind[engine] = itsKind;
            raise[engine] = itsRaise;
            visitor[engine] = visits;
            many++;
            return engine;
        }
    }

    /** THE TEXT, and THE RULE, which is kept as numbers and things done in the order of doing. */
    private static final class Rule {
        private static final int LONGEST_TEXT = 60;
        private static final int LONGEST_RULE = 40;
        private static final int DEEPEST = 5;
        private static final int MOST_DIGITS = 3;

        /** How tight a sign binds: | is the loosest. */
        private static final int COMPARES = 2;
        private static final int ADDS = 3;
        private static final int THING = 4;

        /** Letters are -1 - their place here; what is done stands below them; numbers are themselves. */
        private static final String LETTERS = "lcvdsnbh";
        private static final int LETTER_MANY = 8;
        private static final int NOT = -9;
        private static final int NEGATE = -10;
        private static final int OR = -11;
        private static final int AND = -12;
        private static final int LESS = -13;
        private static final int MORE = -14;
        private static final int SAME = -15;
        private static final int PLUS = -16;
        private static final int MINUS = -17;

        private final int[] text = new int[LONGEST_TEXT];
        private int signs = 0;
        private int[] code = new int[LONGEST_RULE];
        private int codeLength = 0;
        private int[] draft = new int[LONGEST_RULE];
        private int draftLength = 0;
        private int at = 0;
        private int limit = 0;
        private final int[] stack = new int[LONGEST_RULE + 1];
        private final int[] letters = new int[LETTER_MANY];

        int append(int v) {
            if (signs + 4 > LONGEST_TEXT) {
                return NONE;
            }
            for (int shift = 24; shift >= 0; shift -= 8) {
                text[signs] = v >>> shift & 255;
                signs++;
            }
            return signs;
        }

        boolean cut(int n) {
            if (n < 0 || n > signs) {
                return false;
            }
            signs = n;
            return true;
        }

        /** The old rule stays until the new one is known to be right. */
        int adopt() {
            int length = signs;
            signs = 0;
            draftLength = 0;
            at = 0;
            limit = Math.min(length, LONGEST_RULE);
            if (length > 0 && (!readLevel(0, 0) || at < length)) {
                return -1 - at;
            }
            int[] old = code;
            code = draft;
            codeLength = draftLength;
            draft = old;
            return 0;
        }

        /** False leaves 'at' at the sign that can't stand there. */
        private boolean readLevel(int level, int depth) {
            if (level >= THING) {
                return readThing(depth);
            }
            if (!readLevel(level + 1, depth)) {
                return false;
            }
            int most = level == COMPARES ? 1 : LONGEST_RULE;
            for (int i = 0; i < most && at < limit; i++) {
                int deed = joining(text[at], level);
                if (deed == 0) {
                    return true;
                }
                at++;
                if (!readLevel(level + 1, depth)) {
                    return false;
                }
                write(deed);
            }
            return true;
        }

        private boolean readThing(int depth) {
            int first = at;
            while (at < limit && (text[at] == '!' || text[at] == '-')) {
                at++;
            }
            int behind = at;
            if (at >= limit || !readCore(depth)) {
                return false;
            }
            for (int i = behind - 1; i >= first; i--) {
                write(text[i] == '!' ? NOT : NEGATE);
            }
            return true;
        }

        private boolean readCore(int depth) {
            int sign = text[at];
            if (isDigit(sign)) {
                readNumber();
                return true;
            }
            if (sign == '(') {
                if (depth >= DEEPEST) {
                    return false;
                }
                at++;
                if (!readLevel(0, depth + 1) || at >= limit || text[at] != ')') {
                    return false;
                }
                at++;
                return true;
            }
            int letter = LETTERS.indexOf((char) sign);
            if (letter < 0) {
                return false;
            }
            write(-1 - letter);
            at++;
            return true;
        }

        private void readNumber() {
            int number = 0;
            for (int i = 0; i < MOST_DIGITS && at < limit && isDigit(text[at]); i++) {
                number = number * 10 + text[at] - '0';
                at++;
            }
            write(number);
        }

        private static boolean isDigit(int sign) {
            return sign >= '0' && sign <= '9';
        }

        /** 0, if the sign joins nothing at this level. */
        private static int joining(int sign, int level) {
            switch (sign) {
                case '|':
                    return level == 0 ? OR : 0;
                case '&':
                    return level == 1 ? AND : 0;
                case '<':
                    return level == COMPARES ? LESS : 0;
                case '>':
                    return level == COMPARES ? MORE : 0;
                case '=':
                    return level == COMPARES ? SAME : 0;
                case '+':
                    return level == ADDS ? PLUS : 0;
                case '-':
                    return level == ADDS ? MINUS : 0;
                default:
                    return 0;
            }
        }

        private void write(int deed) {
            if (draftLength < LONGEST_RULE) {
                draft[draftLength] = deed;
                draftLength++;
            }
        }

        /** The letters have to be set. What is read is right, so each deed finds its numbers. */
        int value() {
            int top = 0;
            for (int i = 0; i < codeLength; i++) {
                int deed = code[i];
                if (deed > NOT) {
                    stack[top] = deed >= 0 ? deed : letters[-1 - deed];
                    top++;
                    continue;
                }
                int right = stack[top - 1];
                if (deed == NOT) {
                    stack[top - 1] = right == 0 ? 1 : 0;
                    continue;
                }
                if (deed == NEGATE) {
                    stack[top - 1] = -right;
                    continue;
                }
                top--;
                int left = stack[top - 1];
                switch (deed) {
                    case OR:
                        left = left != 0 || right != 0 ? 1 : 0;
                        break;
                    case AND:
                        left = left != 0 && right != 0 ? 1 : 0;
                        break;
                    case LESS:
                        left = left < right ? 1 : 0;
                        break;
                    case MORE:
                        left = left > right ? 1 : 0;
                        break;
                    case SAME:
                        left = left == right ? 1 : 0;
                        break;
                    case PLUS:
                        left = left + right;
                        break;
                    default:
                        left = left - right;
                        break;
                }
                stack[top - 1] = left;
            }
            return stack[0];
        }
    }

    /** What may be done in the yard, and what it takes, wherever all stand. */
    private static final class Yard {
        private final Ring circle;
        private final Fleet fleet;
        private final Rule law;
        /** What freeing() found: kept, since those who ask need more than its sum. */
        private int asideTo = NONE;
        private int asideMinutes = 0;
        private int ownMinutes = 0;

        Yard(Ring itsCircle, Fleet itsFleet, Rule itsLaw) {
            circle = itsCircle;
            fleet = itsFleet;
            law = itsLaw;
        }

        int pointOf(Standing s, int engine) {
            return s.onRoad(engine) ? circle.stalls : s.stallOf[engine];
        }

        int lengthIn(Standing s, int stall) {
            int sum = s.back[stall] == NONE ? 0 : fleet.length[s.back[stall]];
            return s.front[stall] == NONE ? sum : sum + fleet.length[s.front[stall]];
        }

        int inSteamFrom(Standing s, int engine) {
            return s.litAt[engine] + fleet.raise[engine];
        }

        boolean inSteam(Standing s, int engine, int minute) {
            return s.litAt[engine] != NONE && minute - s.litAt[engine] >= fleet.raise[engine];
        }

        boolean mayGo(Standing s, int engine, int minute) {
            return inSteam(s, engine, minute) && !s.isDead(engine);
        }

        boolean isHooded(Standing s, int engine) {
            return !s.onRoad(engine) && circle.isHood(s.stallOf[engine], s.atBack(engine));
        }

        /** Whether a hood is over the place to which one would come in. */
        boolean isNextHooded(Standing s, int stall) {
            return circle.isHood(stall, s.back[stall] == NONE);
        }

        int smoking(Standing s) {
            int bits = 0;
            for (int engine = 0; engine < fleet.many; engine++) {
                if (s.litAt[engine] != NONE && !s.onRoad(engine) && !isHooded(s, engine)) {
                    bits |= 1 << engine;
                }
            }
            return bits;
        }

        boolean takesIt(Standing s, int stall, int engine) {
            if (circle.closed[stall] || s.front[stall] != NONE) {
                return false;
            }
            if (lengthIn(s, stall) + fleet.length[engine] > circle.length[stall]) {
                return false;
            }
            return ruleLets(s, stall, engine, s.back[stall] == NONE);
        }

        boolean ruleLets(Standing s, int stall, int engine, boolean atBack) {
            if (law.codeLength == 0) {
                return true;
            }
            int[] letters = law.letters;
            letters[0] = fleet.length[engine];
            letters[1] = fleet.kind[engine];
            letters[2] = fleet.visitor[engine] ? 1 : 0;
            letters[3] = s.isDead(engine) ? 1 : 0;
            letters[4] = inSteam(s, engine, s.now) ? 1 : 0;
            letters[5] = stall;
            letters[6] = atBack ? 1 : 0;
            letters[7] = circle.isHood(stall, atBack) ? 1 : 0;
            return law.value() != 0;
        }

        int minutes(Standing s, int from, int to) {
            return circle.turn * (circle.stepsBetween(s.table, from) + circle.stepsBetween(from, to)) + 2 * circle.go;
        }

        boolean canStandAt(Standing s, int engine, int point) {
            return point == circle.stalls || takesIt(s, point, engine);
        }

        boolean canGoTo(Standing s, int engine, int point) {
            return point != pointOf(s, engine) && s.inFrontOf(engine) == NONE && canStandAt(s, engine, point);
        }

        int shift(Standing s, int engine, int point, int times) {
            int taken = times * minutes(s, pointOf(s, engine), point);
            s.bring(engine, point == circle.stalls ? NONE : point);
            s.table = point;
            s.now += taken;
            return taken;
        }

        /** For one in a stall: the minutes till it is on THE ROAD, or CANNOT. */
        int freeing(Standing s, int engine) {
            int stall = s.stallOf[engine];
            int other = s.inFrontOf(engine);
            if (!mayGo(s, engine, s.now) || other != NONE && !mayGo(s, other, s.now)) {
                return CANNOT;
            }
            asideTo = NONE;
            asideMinutes = 0;
            ownMinutes = minutes(s, stall, circle.stalls);
            if (other == NONE) {
                return ownMinutes;
            }
            int points = circle.stalls + 1;
            // The nearer the place aside, the fewer the minutes: the first that goes is the best.
            for (int away = 1; away <= points / 2 && asideTo == NONE; away++) {
                int up = stall + away < points ? stall + away : stall + away - points;
                int down = stall >= away ? stall - away : stall - away + points;
                int first = Math.min(up, down);
                int second = Math.max(up, down);
                if (first < circle.stalls && takesIt(s, first, other)) {
                    asideTo = first;
                } else if (second == circle.stalls || takesIt(s, second, other)) {
                    asideTo = second;
                }
            }
            if (asideTo == NONE) {
                return CANNOT;
            }
            asideMinutes = minutes(s, stall, asideTo);
            int steps = circle.stepsBetween(asideTo, stall) + circle.stepsBetween(stall, circle.stalls);
            ownMinutes = circle.turn * steps + 2 * circle.go;
            return asideMinutes + ownMinutes;
        }

        /** What freeing() found just now is done. */
        void sendOut(Standing s, int engine) {
            int other = s.inFrontOf(engine);
            if (other != NONE) {
                shift(s, other, asideTo, 1);
            }
            shift(s, engine, circle.stalls, 1);
        }
    }

    /** Ways found by trying them: how to get engines out of stalls, under hoods, and out of the frost. */
    private static final class Ways {
        private static final int MOST_ORDERED = 5;

        private final Yard yard;
        private final Rows told;
        private final Standing[] levels = new Standing[MOST_ORDERED + 1];
        private final int[] chosen = new int[MOST_ORDERED];
        private final int[] bestChosen = new int[MOST_ORDERED];
        private int best = 0;
        private int bestFirst = 0;
        private int bestLast = 0;
        private int bestMover = 0;
        private int lastMover = 0;
        private final int[] warms = new int[MOST_ENGINES];
        /** Whom the engines up to this one can warm together. */
        private final int[] warmsUpTo = new int[MOST_ENGINES];
        private int allInStalls = 0;
        private int warmBits = 0;

        Ways(Yard itsYard, Rows itsTold) {
            yard = itsYard;
            told = itsTold;
            for (int i = 0; i <= MOST_ORDERED; i++) {
                levels[i] = new Standing();
            }
        }

        int bestOrder(Standing s, int engines) {
            best = ENDLESS;
            levels[0].takeFrom(s);
            tryOrders(engines, 0, 0);
            if (best == ENDLESS) {
                return CANNOT;
            }
            told.empty();
            for (int i = 0; i < Integer.bitCount(engines); i++) {
                told.tell(bestChosen[i]);
            }
            return best;
        }

        /** Orders are tried from the least row on, so that an equal one found later is none better. */
        private void tryOrders(int left, int depth, int spent) {
            if (left == 0) {
                best = spent;
                System.arraycopy(chosen, 0, bestChosen, 0, depth);
                return;
            }
            if (depth >= MOST_ORDERED) {
                return;
            }
            Standing here = levels[depth];
            Standing next = levels[depth + 1];
            for (int engine = 0; engine < MOST_ENGINES; engine++) {
                if ((left >> engine & 1) == 0) {
                    continue;
                }
                boolean isOut = here.onRoad(engine);
                int taken = isOut ? 0 : yard.freeing(here, engine);
                if (taken < 0 || spent + taken >= best) {
                    continue;
                }
                next.takeFrom(here);
                if (!isOut) {
                    yard.sendOut(next, engine);
                }
                chosen[depth] = engine;
                tryOrders(left & ~(1 << engine), depth + 1, spent + taken);
            }
        }

        int emptied(Standing s, int stall) {
            int rear = s.back[stall];
            int fore = s.front[stall];
            if (rear == NONE) {
                told.empty();
                return 0;
            }
            best = ENDLESS;
            bestFirst = NONE;
            if (fore == NONE) {
                tryLastAway(s, rear, 0, NONE);
            } else if (yard.mayGo(s, fore, s.now)) {
                tryBothAway(s, stall);
            }
            if (best == ENDLESS) {
                return CANNOT;
            }
            told.empty();
            if (fore != NONE) {
                told.tell(bestFirst);
            }
            told.tell(bestLast);
            return best;
        }

        private void tryBothAway(Standing s, int stall) {
            int fore = s.front[stall];
            Standing next = levels[0];
            for (int point = 0; point <= yard.circle.stalls; point++) {
                int spent = yard.minutes(s, stall, point);
                if (point != stall && spent < best && yard.canStandAt(s, fore, point)) {
                    next.takeFrom(s);
                    yard.shift(next, fore, point, 1);
                    tryLastAway(next, s.back[stall], spent, point);
                }
            }
        }

        private void tryLastAway(Standing s, int engine, int spent, int first) {
            if (!yard.mayGo(s, engine, s.now)) {
                return;
            }
            int stall = s.stallOf[engine];
            for (int point = 0; point <= yard.circle.stalls; point++) {
                int all = spent + yard.minutes(s, stall, point);
                if (point != stall && all < best && yard.canStandAt(s, engine, point)) {
                    best = all;
                    bestFirst = first;
                    bestLast = point;
                }
            }
        }

        int underHoods(Standing s) {
            int smoking = yard.smoking(s);
            int many = Integer.bitCount(smoking);
            if (many == 0) {
                told.empty();
                return 0;
            }
            if (many > 2) {
                return CANNOT;
            }
            best = ENDLESS;
            if (many == 1) {
                tryUnderHood(s, smoking, 0, NONE, NONE);
                if (best < ENDLESS) {
                    told.tellTwo(lastMover, bestLast);
                    return 1;
                }
            }
            tryTwoUnder(s, smoking);
            if (best == ENDLESS) {
                return CANNOT;
            }
            told.tellTwo(bestMover, bestFirst);
            told.tell(lastMover);
            told.tell(bestLast);
            return 2;
        }

        /** The first move may be anyone's, as it can clear the way or fill a place; the second is the last smoker's. */
        private void tryTwoUnder(Standing s, int smoking) {
            Standing next = levels[0];
            for (int engine = 0; engine < yard.fleet.many; engine++) {
                if (s.inFrontOf(engine) != NONE || !yard.mayGo(s, engine, s.now)) {
                    continue;
                }
                int from = yard.pointOf(s, engine);
                for (int stall = 0; stall < yard.circle.stalls; stall++) {
                    int smoke = yard.isNextHooded(s, stall) ? 0 : 1 << engine;
                    int left = smoking & ~(1 << engine) | smoke;
                    if (stall == from || Integer.bitCount(left) != 1) {
                        continue;
                    }
                    int spent = yard.minutes(s, from, stall);
                    if (spent < best && yard.takesIt(s, stall, engine)) {
                        next.takeFrom(s);
                        yard.shift(next, engine, stall, 1);
                        tryUnderHood(next, left, spent, engine, stall);
                    }
                }
            }
        }

        private void tryUnderHood(Standing s, int smoker, int spent, int firstMover, int first) {
            int engine = Integer.numberOfTrailingZeros(smoker);
            if (engine >= yard.fleet.many || s.inFrontOf(engine) != NONE || !yard.mayGo(s, engine, s.now)) {
                return;
            }
            int from = s.stallOf[engine];
            for (int stall = 0; stall < yard.circle.stalls; stall++) {
                if (stall == from || !yard.isNextHooded(s, stall)) {
                    continue;
                }
                int all = spent + yard.minutes(s, from, stall);
                if (all < best && yard.takesIt(s, stall, engine)) {
                    best = all;
                    bestMover = firstMover;
                    bestFirst = first;
                    lastMover = engine;
                    bestLast = stall;
                }
            }
        }

        int fewestWarm(Standing s, int far) {
            allInStalls = s.inStalls();
            int upTo = 0;
            for (int one = 0; one < MOST_ENGINES; one++) {
                warms[one] = 0;
                for (int other = 0; other < MOST_ENGINES; other++) {
                    if (!s.onRoad(one) && !s.onRoad(other)
                            && yard.circle.stallsBetween(s.stallOf[one], s.stallOf[other]) <= far) {
                        warms[one] |= 1 << other;
                    }
                }
                upTo |= warms[one];
                warmsUpTo[one] = upTo;
            }
            for (int many = 0; many <= MOST_ENGINES; many++) {
                warmBits = 0;
                if (canWarm(MOST_ENGINES - 1, 0, many)) {
                    told.tellOne(warmBits);
                    return many;
                }
            }
            return CANNOT;
        }

        /** High numbers are left out first, so that the first way found has the least bits. */
        private boolean canWarm(int engine, int warm, int left) {
            if (warm == allInStalls) {
                return true;
            }
            if (engine < 0 || left == 0 || (warm | warmsUpTo[engine]) != allInStalls) {
                return false;
            }
            if (canWarm(engine - 1, warm, left)) {
                return true;
            }
            if (warms[engine] != 0 && canWarm(engine - 1, warm | warms[engine], left - 1)) {
                warmBits |= 1 << engine;
                return true;
            }
            return false;
        }
    }

    /** Who comes in and leaves, and where all of them can stand. */
    private static final class Berths {
        private static final int MOST_COMING = 6;
        private static final int SETS = 64;
        /** A cost and a row are kept as one number: the row's stalls are its last six digits to base 24. */
        private static final int BASE = 24;
        private static final long ROWS = 191102976L;
        private static final long FAR = 1L << 60;
        private static final long[] PLACE = {7962624L, 331776L, 13824L, 576L, 24L, 1L};

        private final Yard yard;
        private final Standing live;
        private final Rows told;
        private final int[] comer = new int[MOST_COMING];
        private int coming = 0;
        private final int[] leavesAs = new int[MOST_ENGINES];
        private int leaving = 0;
        private final long[] best = new long[SETS];
        private final long[] before = new long[SETS];

        private final int[] lets = new int[MOST_ENGINES];
        private final int[] given = new int[MOST_ENGINES];
        private final int[] holder = new int[MOST_STALLS];
        private int seen = 0;
        private int fixedStalls = 0;
        private int unfixed = 0;

        Berths(Yard itsYard, Standing itsLive, Rows itsTold) {
            yard = itsYard;
            live = itsLive;
            told = itsTold;
            Arrays.fill(leavesAs, NONE);
        }

        private boolean isComing(int engine) {
            for (int i = 0; i < coming; i++) {
                if (comer[i] == engine) {
                    return true;
                }
            }
            return false;
        }

        int tellComing(int engine) {
            if (coming >= MOST_COMING || isComing(engine)) {
                return NONE;
            }
            comer[coming] = engine;
            coming++;
            return coming;
        }

        int tellLeaving(int engine) {
            if (!isComing(engine) || leavesAs[engine] != NONE) {
                return NONE;
            }
            leavesAs[engine] = leaving;
            leaving++;
            return leaving;
        }

        int forget() {
            int came = coming;
            coming = 0;
            leaving = 0;
            Arrays.fill(leavesAs, NONE);
            return came;
        }

        int bestPut() {
            if (coming == 0 || leaving < coming) {
                return NONE;
            }
            for (int i = 0; i < coming; i++) {
                if (!live.onRoad(comer[i])) {
                    return CANNOT;
                }
            }
            int all = (1 << coming) - 1;
            Arrays.fill(best, FAR);
            best[0] = 0;
            for (int stall = 0; stall < yard.circle.stalls; stall++) {
                if (!yard.circle.closed[stall] && live.back[stall] == NONE) {
                    offerStall(stall, all);
                }
            }
            if (best[all] >= FAR) {
                return CANNOT;
            }
            told.empty();
            for (int i = 0; i < coming; i++) {
                told.tell((int) (best[all] / PLACE[i] % BASE));
            }
            return (int) (best[all] / ROWS);
        }

        private void offerStall(int stall, int all) {
            System.arraycopy(best, 0, before, 0, all + 1);
            int[] length = yard.fleet.length;
            int room = yard.circle.length[stall];
            int fore = foreLets(stall);
            for (int i = 0; i < coming; i++) {
                int rear = comer[i];
                if (length[rear] > room || !yard.ruleLets(live, stall, rear, true)) {
                    continue;
                }
                joinTo(1 << i, weight(i, stall), all);
                for (int j = i + 1; j < coming; j++) {
                    boolean goesFirst = leavesAs[comer[j]] < leavesAs[rear];
                    if (goesFirst && (fore >> j & 1) != 0 && length[rear] + length[comer[j]] <= room) {
                        joinTo(1 << i | 1 << j, weight(i, stall) + weight(j, stall), all);
                    }
                }
            }
        }

        private int foreLets(int stall) {
            int bits = 0;
            for (int j = 1; j < coming; j++) {
                if (yard.ruleLets(live, stall, comer[j], false)) {
                    bits |= 1 << j;
                }
            }
            return bits;
        }

        private long weight(int i, int stall) {
            return 4 * yard.circle.stepsBetween(yard.circle.stalls, stall) * ROWS + stall * PLACE[i];
        }

        /** These are put to the stall at hand, besides each set of others that had places before it. */
        private void joinTo(int bits, long weight, int all) {
            int rest = all & ~bits;
            for (int sub = rest; sub >= 0; sub--) {
                sub &= rest;
                long sum = before[sub] + weight;
                if (sum < best[sub | bits]) {
                    best[sub | bits] = sum;
                }
            }
        }

        int mostSeated(int engines) {
            Arrays.fill(holder, NONE);
            Arrays.fill(given, NONE);
            fixedStalls = 0;
            unfixed = engines;
            int seated = 0;
            for (int engine = 0; engine < MOST_ENGINES; engine++) {
                if ((engines >> engine & 1) != 0) {
                    lets[engine] = stallsFor(engine);
                    seen = 0;
                    if (canSeat(engine, 0)) {
                        seated++;
                    }
                }
            }
            told.empty();
            for (int engine = 0; engine < MOST_ENGINES; engine++) {
                if ((engines >> engine & 1) != 0) {
                    unfixed &= ~(1 << engine);
                    fixLeast(engine);
                    told.tell(given[engine]);
                }
            }
            return seated;
        }

        private int stallsFor(int engine) {
            int bits = 0;
            for (int stall = 0; stall < yard.circle.stalls; stall++) {
                if (yard.takesIt(live, stall, engine)) {
                    bits |= 1 << stall;
                }
            }
            return bits;
        }

        /** Seats one, others going on to other stalls where they must. */
        private boolean canSeat(int engine, int depth) {
            if (depth > MOST_ENGINES) {
                return false;
            }
            for (int i = 0; i < MOST_STALLS; i++) {
                int open = lets[engine] & ~seen & ~fixedStalls;
                if (open == 0) {
                    return false;
                }
                int stall = Integer.numberOfTrailingZeros(open);
                seen |= 1 << stall;
                int other = holder[stall];
                if (other == NONE || canSeat(other, depth + 1)) {
                    holder[stall] = engine;
                    given[engine] = stall;
                    return true;
                }
            }
            return false;
        }

        /** Whether one more of those whose place is open yet can be seated. */
        private boolean canSeatAnother() {
            seen = 0;
            for (int engine = 0; engine < MOST_ENGINES; engine++) {
                if ((unfixed >> engine & 1) != 0 && given[engine] == NONE && canSeat(engine, 0)) {
                    return true;
                }
            }
            return false;
        }

        /** The engine gets the least place (none, or a stall) with which just as many are seated. */
        private void fixLeast(int engine) {
            int had = given[engine];
            if (had == NONE) {
                return;
            }
            holder[had] = NONE;
            given[engine] = NONE;
            if (canSeatAnother()) {
                return;
            }
            for (int stall = 0; stall <= had; stall++) {
                int bit = 1 << stall;
                if ((lets[engine] & ~fixedStalls & bit) == 0) {
                    continue;
                }
                int other = holder[stall];
                fixedStalls |= bit;
                if (other != NONE) {
                    given[other] = NONE;
                }
                if (other == NONE || canSeatAnother()) {
                    holder[stall] = engine;
                    given[engine] = stall;
                    return;
                }
                given[other] = stall;
                fixedStalls &= ~bit;
            }
        }
    }

    /** The coal there is, and who gets which. */
    private static final class Bunker {
        private static final int MOST_COALED = 7;

        private final Fleet fleet;
        private final Rows told;
        private final int[] there = new int[GRADES];
        private final int[] stays = new int[GRADES];
        private final int[] taken = new int[GRADES];
        private final int[] bestTaken = new int[GRADES];
        private final int[] wanter = new int[MOST_COALED];
        private int many = 0;
        private final int[] gets = new int[MOST_COALED];
        private final int[] bestGets = new int[MOST_COALED];
        private boolean found = false;

        Bunker(Fleet itsFleet, Rows itsTold) {
            fleet = itsFleet;
            told = itsTold;
        }

        boolean canCount(int engines) {
            int bits = Integer.bitCount(engines);
            return bits >= 1 && bits <= MOST_COALED && !fleet.hasOthers(engines);
        }

        private void callUp(int engines) {
            many = 0;
            for (int engine = 0; engine < fleet.many && many < MOST_COALED; engine++) {
                if ((engines >> engine & 1) != 0) {
                    wanter[many] = engine;
                    many++;
                }
            }
            Arrays.fill(taken, 0);
            found = false;
        }

        /** What has to stay binds who takes: a short grade stands in nobody's way who takes nothing of it. */
        private boolean canTake(int tons, int grade) {
            return tons == 0 || there[grade] - taken[grade] - tons >= stays[grade];
        }

        int share(int engines, boolean isTaken) {
            callUp(engines);
            tryGrades(0);
            if (!found) {
                return CANNOT;
            }
            told.empty();
            for (int i = 0; i < many; i++) {
                told.tell(bestGets[i]);
            }
            int sum = 0;
            for (int grade = 0; grade < GRADES; grade++) {
                sum += bestTaken[grade];
                told.tell(there[grade] - bestTaken[grade]);
                if (isTaken) {
                    there[grade] -= bestTaken[grade];
                }
            }
            return sum;
        }

        /** Rows are tried from the least on, so that an equal one found later is none better. */
        private void tryGrades(int i) {
            if (found && !isBetter()) {
                return;
            }
            if (i >= many) {
                found = true;
                System.arraycopy(gets, 0, bestGets, 0, many);
                System.arraycopy(taken, 0, bestTaken, 0, GRADES);
                return;
            }
            int tons = fleet.tons[wanter[i]];
            for (int grade = fleet.grade[wanter[i]]; grade < GRADES; grade++) {
                if (canTake(tons, grade)) {
                    taken[grade] += tons;
                    gets[i] = grade;
                    tryGrades(i + 1);
                    taken[grade] -= tons;
                }
            }
        }

        private boolean isBetter() {
            return taken[2] < bestTaken[2] || taken[2] == bestTaken[2] && taken[1] < bestTaken[1];
        }

        int mostTogether(int engines) {
            callUp(engines);
            int all = (1 << many) - 1;
            int best = 0;
            // From the least bits on: of as many the first found stays.
            for (int some = 1; some <= all; some++) {
                if (Integer.bitCount(some) > Integer.bitCount(best) && canCoal(some, 0)) {
                    best = some;
                }
            }
            int bits = 0;
            for (int i = 0; i < many; i++) {
                if ((best >> i & 1) != 0) {
                    bits |= 1 << wanter[i];
                }
            }
            told.tellOne(bits);
            return Integer.bitCount(best);
        }

        private boolean canCoal(int some, int i) {
            if (some >> i == 0 || i >= many) {
                return true;
            }
            if ((some >> i & 1) == 0) {
                return canCoal(some, i + 1);
            }
            int tons = fleet.tons[wanter[i]];
            for (int grade = fleet.grade[wanter[i]]; grade < GRADES; grade++) {
                if (canTake(tons, grade)) {
                    taken[grade] += tons;
                    boolean can = canCoal(some, i + 1);
                    taken[grade] -= tons;
                    if (can) {
                        return true;
                    }
                }
            }
            return false;
        }
    }

    /** The trains of the morning, THE PLAN, and the men for both. */
    private static final class Trains {
        private static final int MOST_MEN = 6;
        private static final int SETS = 256;
        /** A cost and a row are kept as one number: the row's engines (NONE 0) are its last eight digits to base 13. */
        private static final int BASE = 13;
        private static final long ROWS = 815730721L;
        private static final long FAR = 1L << 60;
        private static final long[] PLACE = {62748517L, 4826809L, 371293L, 28561L, 2197L, 169L, 13L, 1L};

        private final Yard yard;
        private final Standing live;
        private final Rows told;
        private int many = 0;
        private final int[] minute = new int[MOST_TRAINS];
        private final int[] kind = new int[MOST_TRAINS];
        private final int[] away = new int[MOST_TRAINS];
        private final int[] planned = new int[MOST_TRAINS];
        /** The trains by minute, of equal ones by number. */
        private final int[] turn = new int[MOST_TRAINS];
        private final long[] best = new long[SETS];
        private final long[] weight = new long[MOST_TRAINS];
        private final int[] chosen = new int[MOST_TRAINS];
        private int parted = 0;
        private final int[] man = new int[MOST_TRAINS];
        private final int[] hisTrains = new int[MOST_TRAINS];
        private final int[] clash = new int[MOST_TRAINS];
        private final int[] begun = new int[MOST_TRAINS];
        private final int[] freeUntil = new int[MOST_MEN];

        Trains(Yard itsYard, Standing itsLive, Rows itsTold) {
            yard = itsYard;
            live = itsLive;
            told = itsTold;
            Arrays.fill(planned, NONE);
        }

        boolean has(int train) {
            return train >= 0 && train < many;
        }

        int enlist(int itsMinute, int itsKind, int itsAway) {
            int train = many;
            minute[train] = itsMinute;
            kind[train] = itsKind;
            away[train] = itsAway;
            int place = train;
            while (place > 0 && minute[turn[place - 1]] > itsMinute) {
                turn[place] = turn[place - 1];
                place--;
            }
            turn[place] = train;
            many++;
            return train;
        }

        /** NONE, if it has none. */
        int trainOf(int engine) {
            for (int train = 0; train < many; train++) {
                if (planned[train] == engine) {
                    return train;
                }
            }
            return NONE;
        }

        boolean suits(int engine, int train) {
            int lit = live.litAt[engine] == NONE ? live.now : live.litAt[engine];
            return !live.isDead(engine) && yard.fleet.kind[engine] >= kind[train]
                    && minute[train] - lit >= yard.fleet.raise[engine];
        }

        /** How many trains are had; 'chosen' and 'parted' tell the row. */
        int bestRow(int without, boolean nearPlan) {
            Arrays.fill(best, FAR);
            best[0] = 0;
            for (int train = 0; train < many; train++) {
                if (nearPlan && planned[train] != NONE) {
                    best[0] += ROWS;
                }
            }
            for (int engine = 0; engine < yard.fleet.many; engine++) {
                if (engine != without) {
                    offerEngine(engine, nearPlan);
                }
            }
            int found = 0;
            for (int had = 1; had < 1 << many; had++) {
                int more = Integer.bitCount(had) - Integer.bitCount(found);
                if (best[had] < FAR && (more > 0 || more == 0 && best[had] < best[found])) {
                    found = had;
                }
            }
            parted = (int) (best[found] / ROWS);
            for (int train = 0; train < many; train++) {
                chosen[train] = (int) (best[found] / PLACE[train] % BASE) - 1;
            }
            return Integer.bitCount(found);
        }

        private void offerEngine(int engine, boolean nearPlan) {
            int suited = 0;
            for (int train = 0; train < many; train++) {
                if (suits(engine, train)) {
                    suited |= 1 << train;
                    weight[train] = (engine + 1) * PLACE[train];
                    if (nearPlan && planned[train] == NONE) {
                        weight[train] += ROWS;
                    } else if (nearPlan && planned[train] == engine) {
                        weight[train] -= ROWS;
                    }
                }
            }
            // From the greatest set down, so that no set that has this engine already gets it again.
            for (int had = suited == 0 ? 0 : (1 << many) - 1; had >= 0; had--) {
                if (best[had] >= FAR) {
                    continue;
                }
                for (int open = suited & ~had; open != 0; open &= open - 1) {
                    int train = Integer.numberOfTrailingZeros(open);
                    int next = had | 1 << train;
                    best[next] = Math.min(best[next], best[had] + weight[train]);
                }
            }
        }

        void tellChosen() {
            for (int train = 0; train < many; train++) {
                told.tell(chosen[train]);
            }
        }

        int soonestFor(int train) {
            int first = CANNOT;
            int fewest = ENDLESS;
            for (int engine = 0; engine < yard.fleet.many; engine++) {
                if (suits(engine, train)) {
                    int minutes = live.onRoad(engine) ? 0 : yard.freeing(live, engine);
                    if (minutes >= 0 && minutes < fewest) {
                        fewest = minutes;
                        first = engine;
                    }
                }
            }
            if (first >= 0) {
                told.tellOne(fewest);
            }
            return first;
        }

        int badlyBehind() {
            int bits = 0;
            for (int train = 0; train < many; train++) {
                int engine = planned[train];
                int other = engine == NONE ? NONE : live.inFrontOf(engine);
                if (other != NONE) {
                    int its = trainOf(other);
                    if (its == NONE || minute[its] > minute[train]) {
                        bits |= 1 << engine;
                    }
                }
            }
            return bits;
        }

        int fewestCrews(int rest, int duty) {
            for (int train = 0; train < many; train++) {
                if (away[train] > duty) {
                    return CANNOT;
                }
                clash[train] = 0;
                for (int other = 0; other < many; other++) {
                    if (other != train && !canShare(train, other, rest, duty)) {
                        clash[train] |= 1 << other;
                    }
                }
            }
            int men = 0;
            Arrays.fill(hisTrains, 0);
            while (men < many && !canCrew(0, 0, men)) {
                men++;
            }
            if (men == many) {
                canCrew(0, 0, men);
            }
            told.empty();
            for (int train = 0; train < many; train++) {
                told.tell(man[train]);
            }
            return men;
        }

        /** What holds for each two of a man's trains holds for all, since none overlap. */
        private boolean canShare(int one, int other, int rest, int duty) {
            int early = minute[one] <= minute[other] ? one : other;
            int late = early == one ? other : one;
            int end = minute[late] + away[late];
            return minute[late] >= minute[early] + away[early] + rest && end - minute[early] <= duty;
        }

        /** The least man first, so that the first way found is the least row. */
        private boolean canCrew(int train, int used, int men) {
            if (train >= many) {
                return true;
            }
            for (int i = 0; i <= used && i < men; i++) {
                if ((hisTrains[i] & clash[train]) == 0) {
                    man[train] = i;
                    hisTrains[i] |= 1 << train;
                    boolean can = canCrew(train + 1, Math.max(used, i + 1), men);
                    hisTrains[i] &= ~(1 << train);
                    if (can) {
                        return true;
                    }
                }
            }
            return false;
        }

        /** The minute at which the first fire is begun; 'begun' tells each. */
        int beginFires(int w, int k) {
            Arrays.fill(freeUntil, ENDLESS);
            int left = 0;
            for (int train = 0; train < many; train++) {
                begun[train] = NONE;
                if (planned[train] != NONE && live.litAt[planned[train]] == NONE) {
                    left |= 1 << train;
                }
            }
            int first = left == 0 ? NO_FIRES : ENDLESS;
            for (int i = 0; i < many && left != 0; i++) {
                int train = latestOf(left);
                int who = 0;
                for (int other = 1; other < k; other++) {
                    if (freeUntil[other] > freeUntil[who]) {
                        who = other;
                    }
                }
                begun[train] = Math.min(litBy(train), freeUntil[who]) - w;
                freeUntil[who] = begun[train];
                first = Math.min(first, begun[train]);
                left &= ~(1 << train);
            }
            return first;
        }

        private int litBy(int train) {
            return minute[train] - yard.fleet.raise[planned[train]];
        }

        private int latestOf(int bits) {
            int latest = NONE;
            for (int train = 0; train < many; train++) {
                if ((bits >> train & 1) != 0 && (latest == NONE || litBy(train) >= litBy(latest))) {
                    latest = train;
                }
            }
            return latest;
        }

        void tellFires() {
            told.empty();
            for (int train = 0; train < many; train++) {
                told.tell(begun[train]);
            }
        }

        int fewestMen(int w) {
            for (int men = 1; men <= MOST_MEN; men++) {
                int first = beginFires(w, men);
                if (first == NO_FIRES || first >= live.now) {
                    return men;
                }
            }
            return CANNOT;
        }
    }

    /** The morning gone through on a copy of where all stand. */
    private static final class Dawn {
        private final Yard yard;
        private final Trains trains;
        private final Standing live;
        private final Rows told;
        private final Standing here = new Standing();
        private final int[] late = new int[MOST_TRAINS];
        /** The causes of each train's delay: the table, steam, the one in front. */
        private final int[] byTable = new int[MOST_TRAINS];
        private final int[] bySteam = new int[MOST_TRAINS];
        private final int[] byFront = new int[MOST_TRAINS];
        private int tableFree = 0;

        Dawn(Yard itsYard, Trains itsTrains, Standing itsLive, Rows itsTold) {
            yard = itsYard;
            trains = itsTrains;
            live = itsLive;
            told = itsTold;
        }

        int goThrough() {
            here.takeFrom(live);
            lightAll();
            tableFree = live.now;
            int sum = 0;
            for (int i = 0; i < trains.many; i++) {
                int train = trains.turn[i];
                int engine = trains.planned[train];
                if (engine == NONE) {
                    late[train] = CANNOT;
                } else if (here.isDead(engine)) {
                    late[train] = NONE;
                } else if (here.onRoad(engine)) {
                    late[train] = waitOnRoad(train, engine);
                } else {
                    late[train] = comeFromStall(train, engine);
                }
                sum += Math.max(0, late[train]);
            }
            return sum;
        }

        private void lightAll() {
            for (int train = 0; train < trains.many; train++) {
                int engine = trains.planned[train];
                if (engine != NONE) {
                    lightOne(engine);
                    lightOne(here.inFrontOf(engine));
                }
            }
        }

        private void lightOne(int engine) {
            if (engine != NONE && here.litAt[engine] == NONE) {
                here.litAt[engine] = here.now;
            }
        }

        private int waitOnRoad(int train, int engine) {
            int ready = Math.max(live.now, yard.inSteamFrom(here, engine));
            int behind = Math.max(0, ready - trains.minute[train]);
            byTable[train] = 0;
            bySteam[train] = behind;
            byFront[train] = 0;
            return behind;
        }

        private int comeFromStall(int train, int engine) {
            int other = here.inFrontOf(engine);
            int ready = Math.max(live.now, yard.inSteamFrom(here, engine));
            if (other != NONE) {
                ready = Math.max(ready, yard.inSteamFrom(here, other));
            }
            here.now = Math.max(tableFree, ready);
            if (yard.freeing(here, engine) < 0) {
                return NONE;
            }
            int ought = trains.minute[train] - yard.ownMinutes;
            byTable[train] = Math.max(0, tableFree - ought);
            bySteam[train] = Math.max(0, ready - ought);
            byFront[train] = yard.asideMinutes;
            yard.sendOut(here, engine);
            tableFree = here.now;
            return Math.max(0, here.now - trains.minute[train]);
        }

        int causeOf(int train) {
            goThrough();
            if (late[train] == CANNOT || late[train] == 0) {
                return late[train];
            }
            if (late[train] == NONE) {
                return 5;
            }
            told.tellTwo(byTable[train], bySteam[train]);
            told.tell(byFront[train]);
            if (byTable[train] >= bySteam[train] && byTable[train] >= byFront[train]) {
                return 1;
            }
            return bySteam[train] >= byFront[train] ? 2 : 3;
        }

        int bestExchange() {
            int least = goThrough();
            int one = NONE;
            int other = NONE;
            for (int first = 0; first < trains.many; first++) {
                for (int second = first + 1; second < trains.many; second++) {
                    if (canExchange(first, second)) {
                        swap(first, second);
                        int sum = goThrough();
                        swap(first, second);
                        if (sum < least) {
                            least = sum;
                            one = first;
                            other = second;
                        }
                    }
                }
            }
            told.empty();
            if (one != NONE) {
                told.tellTwo(one, other);
            }
            return least;
        }

        private boolean canExchange(int first, int second) {
            int one = trains.planned[first];
            int other = trains.planned[second];
            return one != NONE && other != NONE && trains.suits(one, second) && trains.suits(other, first);
        }

        private void swap(int first, int second) {
            int engine = trains.planned[first];
            trains.planned[first] = trains.planned[second];
            trains.planned[second] = engine;
        }
    }
}
