/** Promises 49 to 53: what is kept, counts, who is inside, and the ROW. */
public final class KeptTest {
    public static void main(String[] args) {
        keepAndAgain();
        whatForgets();
        whatStays();
        count();
        inside();
        row();
        refusedCallsChangeNothing();
        Check.end();
    }

    private static EnginesAsleep two() {
        EnginesAsleep x = new EnginesAsleep();
        x.engine(10, 1, 0, false);
        x.engine(10, 2, 5, false);
        return x;
    }

    private static void keepAndAgain() {
        EnginesAsleep x = two();
        Check.due("keep -1", x.keep(-1), false);
        Check.due("keep 3", x.keep(3), false);
        Check.due("again -1", x.again(-1), false);
        Check.due("again 3", x.again(3), false);
        Check.due("nothing kept", x.again(0), false);
        x.light(0);
        x.move(0, 4);
        x.dead(1, true);
        String first = Check.seen(x);
        Check.due("keep 0", x.keep(0), true);
        x.move(0, 11);
        x.dead(1, false);
        x.dead(0, true);
        x.light(1);
        x.pass(100);
        String second = Check.seen(x);
        Check.due("keep 2", x.keep(2), true);
        Check.due("nothing under 1", x.again(1), false);
        Check.due("again 0", x.again(0), true);
        Check.same("again(0)", first, Check.seen(x));
        x.move(0, 7);
        Check.due("again 0 once more", x.again(0), true);
        Check.same("again(0) once more", first, Check.seen(x));
        Check.due("again 2", x.again(2), true);
        Check.same("again(2)", second, Check.seen(x));
        Check.due("keep 0 anew", x.keep(0), true);
        x.pass(1);
        x.again(0);
        Check.same("again(0) anew", second, Check.seen(x));
    }

    private static void whatForgets() {
        EnginesAsleep x = two();
        x.keep(0);
        Check.due("refused ring", x.ring(3), -1);
        Check.due("refused stall", x.stall(0, 9, 0), false);
        Check.due("refused sheet", x.sheet(9, 0, 0, 0), -1);
        Check.due("sheet that changes nothing", x.sheet(0, -1, 0, 0), -2);
        Check.due("refused engine", x.engine(0, 0, 0, false), -1);
        x.shut(1, true);
        x.set(0, 2);
        Check.due("none of these counts", x.again(0), true);
        x.stall(0, 30, 3);
        Check.due("a stall", x.again(0), false);
        x.keep(0);
        Check.due("kept anew", x.again(0), true);
        x.keep(1);
        x.ring(11);
        Check.due("a ring", x.again(0), false);
        x.keep(0);
        Check.due("another was kept before it", x.again(1), false);
        x.sheet(2, 1, 40, 0);
        Check.due("a sheet", x.again(0), false);
        x.keep(0);
        x.sheet(3, 1, 40, 0);
        Check.due("a missing sheet", x.again(0), false);
        x.keep(0);
        x.engine(10, 1, 1, false);
        Check.due("an engine", x.again(0), false);
    }

    private static void whatStays() {
        EnginesAsleep x = two();
        x.keep(0);
        x.coal(0, 50, 0);
        x.wants(0, 5, 0);
        x.train(50, 0, 1);
        x.plan(0, 1);
        x.comes(0);
        x.leaves(0);
        x.inside(0);
        x.shut(3, true);
        Check.rule(x, "n>1");
        x.sign(0);
        x.light(0);
        x.again(0);
        Check.due("the fire is out", x.count(8), 0);
        Check.due("coal stays", x.coaled(1), 5);
        Check.row("coal stays", x, 0, 45, 0, 0);
        Check.due("trains stay", x.count(4), 1);
        x.morning();
        Check.row("the plan stays", x, 0);
        Check.due("who come stay", x.count(5), 1);
        Check.due("who leave stay", x.count(6), 1);
        Check.due("shut stays", x.takes(3, 0), 0);
        Check.due("the rule stays", x.takes(1, 0), 0);
        Check.due("the text stays", x.count(11), 4);
    }

    private static void count() {
        EnginesAsleep x = two();
        Check.due("count(-1)", x.count(-1), -1);
        Check.due("count(12)", x.count(12), -1);
        x.ring(9);
        x.light(0);
        x.light(1);
        x.pass(6);
        x.move(1, 2);
        x.dead(0, true);
        x.train(1, 1, 1);
        x.comes(0);
        x.leaves(0);
        x.sign(0);
        x.inside(2);
        int[] due = {9, 2, 13, 2, 1, 1, 1, 2, 3, 1, 1, 4};
        for (int what = 0; what < due.length; what++) {
            Check.due("count(" + what + ")", x.count(what), due[what]);
        }
    }

    private static void inside() {
        EnginesAsleep x = two();
        x.light(0);
        x.light(1);
        x.pass(5);
        Check.due("stall -1", x.inside(-1), -1);
        Check.due("the road", x.inside(11), -1);
        Check.due("none", x.inside(3), 0);
        Check.row("none", x);
        x.move(1, 3);
        Check.due("one", x.inside(3), 1);
        Check.row("one", x, 1);
        x.move(0, 3);
        Check.due("two", x.inside(3), 2);
        Check.row("the back one first", x, 1, 0);
        Check.due("refused", x.inside(99), -1);
        Check.row("the row stays", x, 1, 0);
    }

    private static void row() {
        EnginesAsleep x = two();
        Check.rowThrows(x, 0);
        x.light(0);
        x.move(0, 3);
        x.inside(3);
        Check.due("row(0)", x.row(0), 0);
        Check.rowThrows(x, 1);
        Check.rowThrows(x, -1);
        Check.rowThrows(x, Integer.MAX_VALUE);
        Check.rowThrows(x, Integer.MIN_VALUE);
        x.count(3);
        x.move(0, 11);
        x.takes(2, 0);
        Check.row("calls that tell no row let it be", x, 0);
        x.inside(3);
        Check.rowThrows(x, 0);
    }

    private static void refusedCallsChangeNothing() {
        for (int v : new int[] {Integer.MIN_VALUE, -3, -2, -1, 99, 1 << 20, Integer.MAX_VALUE}) {
            EnginesAsleep x = two();
            x.light(0);
            x.move(0, 3);
            x.train(50, 1, 5);
            x.plan(0, 0);
            x.inside(3);
            x.sign(0x30303030);
            String before = Check.seen(x);
            x.ring(v);
            x.stall(v, 30, 3);
            x.stall(3, v, 3);
            x.stall(3, 30, v);
            x.sheet(v, 1, 1, 1);
            x.sheet(0, v, 1, 1);
            x.shut(v, true);
            x.set(0, v);
            x.set(1, v);
            x.set(v, 1);
            x.steps(v, 0);
            x.steps(0, v);
            x.end(v);
            x.engine(v, 1, 1, true);
            x.engine(10, v, 1, true);
            x.light(v);
            x.drop(v);
            x.dead(v, true);
            x.takes(v, 0);
            x.takes(0, v);
            x.move(v, 0);
            x.move(0, v);
            x.drag(v, 0, 0);
            x.drag(0, v, 0);
            x.drag(0, 1, v);
            x.free(v);
            x.clear(v);
            x.comes(v);
            x.leaves(v);
            x.coal(v, 1, 1);
            x.wants(v, 1, 1);
            x.wants(0, v, 1);
            x.wants(0, 1, v);
            x.train(v == 99 ? -1 : v, 1, 1 << 20);
            x.train(1, v, 1);
            x.plan(v, 0);
            x.plan(0, v == -1 ? -2 : v);
            x.fits(v, 0);
            x.fits(0, v);
            x.fails(v);
            x.soonest(v);
            x.crews(v, 0);
            x.crews(0, v == 99 ? 0 : v);
            x.fires(v, 0);
            x.fires(1, v);
            x.men(v == 99 ? 0 : v);
            x.frost(v);
            x.why(v);
            x.keep(v);
            x.again(v);
            x.count(v);
            x.inside(v);
            if (v < 0 || v > 3) {
                x.order(v & ~1 | 1 << 30);
                x.room(v | 1 << 30);
                x.coaled(v | 1 << 30);
                x.fill(v | 1 << 30);
                x.burns(v | 1 << 30);
            }
            Check.same("refused calls with " + v, before, Check.seen(x));
            Check.due("coal is as at first", x.coal(0, 0, 0), 0);
        }
    }
}
