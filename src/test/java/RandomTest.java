import java.util.ArrayList;
import java.util.Arrays;
import java.util.List;
import java.util.NoSuchElementException;
import java.util.Random;

/** All promises: long runs of calls, each answer, ROW and count held against the Oracle's. The seeds are fixed. */
public final class RandomTest {
    private static final int CALLS = 56;

    /** What a run asks most: cases of randomCall(). */
    private static final int[][] FOCUS = {
        {},
        {37, 37, 38, 38, 38, 39, 40, 41, 41, 39},
        {1, 3, 9, 12, 16, 17, 18, 19, 20, 21, 22, 23, 24, 25, 26, 27, 28},
        {1, 1, 1, 1, 9, 16, 21, 21, 21, 29, 30, 30},
        {1, 3, 6, 8, 21, 34, 35, 35, 35},
        {1, 3, 6, 8, 21, 17, 36, 36, 36},
        {8, 9, 11, 12, 16, 42, 42, 43, 43, 44, 45, 46, 46, 47, 49},
        {9, 11, 12, 16, 18, 20, 21, 21, 21, 42, 42, 43, 43, 43, 47, 48, 50, 52, 52},
        {17, 21, 21, 21, 51, 51, 53, 54, 55},
    };

    private final Random random;
    private final EnginesAsleep x = new EnginesAsleep();
    private final Oracle o = new Oracle();
    private final List<String> log = new ArrayList<>();
    private String call = "";
    private final int[] focus;

    private RandomTest(long seed) {
        random = new Random(seed);
        focus = FOCUS[(int) (seed % FOCUS.length)];
    }

    public static void main(String[] args) {
        int runs = args.length > 0 ? Integer.parseInt(args[0]) : 400;
        int from = args.length > 1 ? Integer.parseInt(args[1]) : 1;
        int faults = 0;
        for (int seed = from; seed < from + runs && faults < 3; seed++) {
            if (!new RandomTest(seed).run(seed)) {
                faults++;
            }
        }
        Check.end();
    }

    private boolean run(int seed) {
        int before = 0;
        if (pick(3) > 0) {
            both("ring", pick(4) == 0 ? 4 + pick(20) : 4 + pick(8));
        }
        if (pick(2) == 0) {
            both("set", 0, 1 + pick(3));
            both("set", 1, pick(4));
        }
        int first = 2 + pick(10);
        for (int i = 0; i < first; i++) {
            newEngine();
            if (pick(4) > 0) {
                both("light", i);
            }
        }
        if (pick(2) == 0) {
            randomRule();
        }
        if (pick(2) == 0) {
            both("pass", pick(100));
        }
        for (int i = 0; i < first * 2 && pick(8) > 0; i++) {
            both("move", engine(), stall());
        }
        for (int i = 0; i < 380; i++) {
            randomCall();
            if (log.size() > 505) {
                break;
            }
            if (!asSeen(seed)) {
                return false;
            }
            before++;
        }
        return before > 0;
    }

    private int pick(int n) {
        return random.nextInt(n);
    }

    /** Mostly one there is, now and then none. */
    private int engine() {
        int n = o.engines.size();
        return pick(30) == 0 || n == 0 ? pick(15) - 1 : pick(n);
    }

    private int train() {
        int n = o.trains.size();
        return pick(30) == 0 || n == 0 ? pick(10) - 1 : pick(n);
    }

    private int stall() {
        return pick(30) == 0 ? pick(30) - 3 : pick(o.n);
    }

    private int point() {
        return pick(4) == 0 ? o.n : stall();
    }

    /** Bits of some of these, at most so many. */
    private int bitsOf(int all, int most) {
        if (pick(30) == 0) {
            return pick(2) == 0 ? random.nextInt() : 0;
        }
        int bits = 0;
        for (int i = 0; i < 3 * most; i++) {
            int bit = 1 << pick(12);
            if ((all & bit) != 0 && Integer.bitCount(bits | bit) <= most) {
                bits |= bit;
            }
        }
        return bits;
    }

    private void newEngine() {
        boolean wrong = pick(25) == 0;
        both("engine", wrong ? pick(40) - 3 : 5 + pick(16), pick(6), pick(3) > 0 ? 0 : pick(wrong ? 700 : 90), pick(2));
    }

    private void newTrain() {
        boolean wrong = pick(15) == 0;
        int soon = Math.max(0, Math.min(2000, o.p.now - 20 + pick(150)));
        both("train", wrong ? pick(2300) - 100 : soon, wrong ? pick(8) - 1 : pick(4), wrong ? pick(800) - 50 : 1 + pick(200));
    }

    private void randomCall() {
        int all = (1 << o.engines.size()) - 1;
        int in = o.count(7);
        switch (focus.length > 0 && pick(4) > 0 ? focus[pick(focus.length)] : pick(CALLS)) {
            case 0: both("ring", pick(28)); break;
            case 1: both("stall", stall(), pick(3) == 0 ? pick(70) : 25 + pick(36), pick(5) == 0 ? pick(6) - 1 : pick(4)); break;
            case 2: both("sheet", pick(6) == 0 ? pick(6) - 1 : pick(3), pick(o.n + 3) - 1, random.nextInt() >> pick(32), random.nextInt() >> pick(32)); break;
            case 3: both("shut", stall(), pick(3) == 0 ? 1 : 0); break;
            case 4: both("set", pick(3), pick(11)); break;
            case 5: both("steps", point(), point()); break;
            case 6: case 7: randomRule(); break;
            case 8: newEngine(); break;
            case 9: case 10: both("light", engine()); break;
            case 11: both("drop", pick(3) == 0 ? engine() : -1); break;
            case 12: both("dead", engine(), pick(4) == 0 ? 1 : 0); break;
            case 13: both("of", engine(), pick(9) - 1); break;
            case 14: both("takes", stall(), engine()); break;
            case 15: both("smoke"); break;
            case 16: both("pass", pick(20) == 0 ? pick(700) - 50 : pick(40)); break;
            case 17: case 18: case 19: case 20: both("move", engine(), point()); break;
            case 21: both("move", engine(), stall()); break;
            case 22: both("drag", engine(), engine(), point()); break;
            case 23: case 24: both("free", engine()); break;
            case 25: case 26: both("order", bitsOf(pick(9) == 0 ? all : in, pick(12) == 0 ? 6 : 1 + pick(5))); break;
            case 27: case 28: both("clear", stall()); break;
            case 29: case 30: both("under"); break;
            case 31: both("comes", engine()); break;
            case 32: both("leaves", o.come.isEmpty() ? engine() : o.come.get(pick(o.come.size()))); break;
            case 33: if (pick(3) == 0) { both("nobody"); } break;
            case 34: case 35: tellAndPut(); break;
            case 36: if (o.n < 12) { both("room", bitsOf(pick(9) == 0 ? all : all & ~in, 12)); } break;
            case 37: both("coal", pick(20) == 0 ? pick(5) - 1 : pick(3), pick(20) == 0 ? pick(1100) - 50 : pick(100), pick(20) == 0 ? pick(1100) - 50 : pick(4) == 0 ? pick(60) : pick(15)); break;
            case 38: both("wants", engine(), pick(20) == 0 ? pick(60) - 10 : pick(41), pick(20) == 0 ? pick(5) - 1 : pick(3)); break;
            case 39: both("coaled", bitsOf(all, 8)); break;
            case 40: both("fill", bitsOf(all, 4)); break;
            case 41: both("burns", bitsOf(all, pick(6) == 0 ? 8 : 6)); break;
            case 42: newTrain(); break;
            case 43: case 44: both("plan", train(), pick(6) == 0 ? -1 : engine()); break;
            case 45: both("fits", engine(), train()); both("most"); break;
            case 46: both("fails", engine()); break;
            case 47: both("soonest", train()); both("wrong"); break;
            case 48: both("exchange"); break;
            case 49: both("crews", pick(20) == 0 ? pick(800) - 50 : pick(60), pick(20) == 0 ? pick(2200) - 50 : 200 + pick(500)); break;
            case 50: both("fires", pick(20) == 0 ? pick(150) - 5 : 1 + pick(30), pick(20) == 0 ? pick(9) - 1 : 1 + pick(6)); both("men", pick(60)); break;
            case 51: both("frost", pick(20) == 0 ? pick(16) - 2 : pick(5)); break;
            case 52: both("morning"); both("why", train()); both("why", train()); break;
            case 53: both("keep", pick(5) - 1); break;
            case 54: both("again", pick(5) - 1); break;
            default: both("inside", stall()); both("row", pick(4) - 1); break;
        }
    }

    private void tellAndPut() {
        if (pick(2) == 0) {
            both("nobody");
            for (int i = 0; i < 6; i++) {
                both("comes", engine());
            }
            List<Integer> out = new ArrayList<>(o.come);
            java.util.Collections.shuffle(out, random);
            for (int e : out) {
                both("leaves", e);
            }
        }
        both("put");
    }

    private void randomRule() {
        StringBuilder text = new StringBuilder();
        expression(text, 0);
        if (pick(3) == 0 && text.length() > 0) {
            String signs = "|&<>=+-!()0123456789lcvdsnbhx ";
            text.setCharAt(pick(text.length()), signs.charAt(pick(signs.length())));
        }
        if (pick(6) == 0) {
            text.setLength(0);
        }
        if (text.length() > 60) {
            text.setLength(60);
        }
        String t = text.toString();
        for (int i = 0; i < t.length(); i += 4) {
            int v = random.nextInt();
            for (int j = 0; j < 4 && i + j < t.length(); j++) {
                int shift = 24 - 8 * j;
                v = v & ~(255 << shift) | t.charAt(i + j) << shift;
            }
            both("sign", v);
        }
        both("end", t.length());
        if (pick(20) == 0) {
            both("end", pick(70) - 5);
        }
        both("rule");
    }

    /** Most of these let most engines in. */
    private void expression(StringBuilder text, int depth) {
        int parts = depth == 0 ? 1 + pick(3) : 1 + pick(2);
        for (int i = 0; i < parts; i++) {
            if (i > 0) {
                text.append("||&".charAt(pick(3)));
            }
            sum(text, depth);
            if (pick(4) > 0) {
                text.append("<>=".charAt(pick(3)));
                sum(text, depth);
            }
        }
    }

    private void sum(StringBuilder text, int depth) {
        int parts = pick(3) == 0 ? 2 : 1;
        for (int i = 0; i < parts; i++) {
            if (i > 0) {
                text.append(pick(2) == 0 ? '+' : '-');
            }
            while (pick(5) == 0) {
                text.append(pick(2) == 0 ? '!' : '-');
            }
            if (pick(6) == 0 && depth < 7) {
                text.append('(');
                expression(text, depth + 1);
                text.append(')');
            } else if (pick(3) == 0) {
                text.append(pick(pick(3) == 0 ? 1200 : 20));
            } else {
                text.append("lcvdsnbh".charAt(pick(8)));
            }
        }
    }

    private void both(String name, int... a) {
        call = name + Arrays.toString(a);
        log.add(call);
        long got = onClass(name, a);
        long want = onOracle(name, a);
        if (got != want) {
            Check.fault("after " + log + ": " + call + " answered " + got + ", the oracle " + want);
        }
    }

    private static final long THROWN = Long.MIN_VALUE;

    private boolean asSeen(int seed) {
        StringBuilder got = new StringBuilder();
        StringBuilder want = new StringBuilder();
        for (int what = -1; what <= 12; what++) {
            got.append(' ').append(x.count(what));
            want.append(' ').append(o.count(what));
        }
        got.append(Arrays.toString(Check.rowOf(x)));
        want.append(o.row);
        for (int e = 0; e < o.engines.size(); e++) {
            for (int what = 0; what < 7; what++) {
                got.append(' ').append(x.of(e, what));
                want.append(' ').append(o.of(e, what));
            }
        }
        boolean same = got.toString().equals(want.toString());
        Check.due("seed " + seed + " " + call + "\n" + got + "\n" + want + "\n" + (same ? "" : log), same, true);
        return same;
    }

    private long onClass(String name, int[] a) {
        try {
            switch (name) {
                case "ring": return x.ring(a[0]);
                case "stall": return x.stall(a[0], a[1], a[2]) ? 1 : 0;
                case "sheet": return x.sheet(a[0], a[1], a[2], a[3]);
                case "shut": return x.shut(a[0], a[1] != 0) ? 1 : 0;
                case "set": return x.set(a[0], a[1]);
                case "steps": return x.steps(a[0], a[1]);
                case "sign": return x.sign(a[0]);
                case "end": return x.end(a[0]) ? 1 : 0;
                case "rule": return x.rule();
                case "engine": return x.engine(a[0], a[1], a[2], a[3] != 0);
                case "light": return x.light(a[0]) ? 1 : 0;
                case "drop": return x.drop(a[0]);
                case "dead": return x.dead(a[0], a[1] != 0) ? 1 : 0;
                case "of": return x.of(a[0], a[1]);
                case "takes": return x.takes(a[0], a[1]);
                case "smoke": return x.smoke();
                case "pass": return x.pass(a[0]);
                case "move": return x.move(a[0], a[1]);
                case "drag": return x.drag(a[0], a[1], a[2]);
                case "free": return x.free(a[0]);
                case "order": return x.order(a[0]);
                case "clear": return x.clear(a[0]);
                case "under": return x.under();
                case "comes": return x.comes(a[0]);
                case "leaves": return x.leaves(a[0]);
                case "nobody": return x.nobody();
                case "put": return x.put();
                case "room": return x.room(a[0]);
                case "coal": return x.coal(a[0], a[1], a[2]);
                case "wants": return x.wants(a[0], a[1], a[2]) ? 1 : 0;
                case "coaled": return x.coaled(a[0]);
                case "fill": return x.fill(a[0]);
                case "burns": return x.burns(a[0]);
                case "train": return x.train(a[0], a[1], a[2]);
                case "plan": return x.plan(a[0], a[1]) ? 1 : 0;
                case "fits": return x.fits(a[0], a[1]);
                case "most": return x.most();
                case "fails": return x.fails(a[0]);
                case "soonest": return x.soonest(a[0]);
                case "wrong": return x.wrong();
                case "exchange": return x.exchange();
                case "crews": return x.crews(a[0], a[1]);
                case "fires": return x.fires(a[0], a[1]);
                case "men": return x.men(a[0]);
                case "frost": return x.frost(a[0]);
                case "morning": return x.morning();
                case "why": return x.why(a[0]);
                case "keep": return x.keep(a[0]) ? 1 : 0;
                case "again": return x.again(a[0]) ? 1 : 0;
                case "inside": return x.inside(a[0]);
                default: return x.row(a[0]);
            }
        } catch (NoSuchElementException e) {
            return THROWN;
        }
    }

    private long onOracle(String name, int[] a) {
        try {
            switch (name) {
                case "ring": return o.ring(a[0]);
                case "stall": return o.stall(a[0], a[1], a[2]) ? 1 : 0;
                case "sheet": return o.sheet(a[0], a[1], a[2], a[3]);
                case "shut": return o.shut(a[0], a[1] != 0) ? 1 : 0;
                case "set": return o.set(a[0], a[1]);
                case "steps": return o.steps(a[0], a[1]);
                case "sign": return o.sign(a[0]);
                case "end": return o.end(a[0]) ? 1 : 0;
                case "rule": return o.rule();
                case "engine": return o.engine(a[0], a[1], a[2], a[3] != 0);
                case "light": return o.light(a[0]) ? 1 : 0;
                case "drop": return o.drop(a[0]);
                case "dead": return o.dead(a[0], a[1] != 0) ? 1 : 0;
                case "of": return o.of(a[0], a[1]);
                case "takes": return o.takes(a[0], a[1]);
                case "smoke": return o.smoke();
                case "pass": return o.pass(a[0]);
                case "move": return o.move(a[0], a[1]);
                case "drag": return o.drag(a[0], a[1], a[2]);
                case "free": return o.free(a[0]);
                case "order": return o.order(a[0]);
                case "clear": return o.clear(a[0]);
                case "under": return o.under();
                case "comes": return o.comes(a[0]);
                case "leaves": return o.leaves(a[0]);
                case "nobody": return o.nobody();
                case "put": return o.put();
                case "room": return o.room(a[0]);
                case "coal": return o.coal(a[0], a[1], a[2]);
                case "wants": return o.wants(a[0], a[1], a[2]) ? 1 : 0;
                case "coaled": return o.coaled(a[0]);
                case "fill": return o.fill(a[0]);
                case "burns": return o.burns(a[0]);
                case "train": return o.train(a[0], a[1], a[2]);
                case "plan": return o.plan(a[0], a[1]) ? 1 : 0;
                case "fits": return o.fits(a[0], a[1]);
                case "most": return o.most();
                case "fails": return o.fails(a[0]);
                case "soonest": return o.soonest(a[0]);
                case "wrong": return o.wrong();
                case "exchange": return o.exchange();
                case "crews": return o.crews(a[0], a[1]);
                case "fires": return o.fires(a[0], a[1]);
                case "men": return o.men(a[0]);
                case "frost": return o.frost(a[0]);
                case "morning": return o.morning();
                case "why": return o.why(a[0]);
                case "keep": return o.keep(a[0]) ? 1 : 0;
                case "again": return o.again(a[0]) ? 1 : 0;
                case "inside": return o.inside(a[0]);
                default: return o.row(a[0]);
            }
        } catch (NoSuchElementException e) {
            return THROWN;
        }
    }
}
