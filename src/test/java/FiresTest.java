/** Promises 44 to 46: by when fires have to be lit, by how few men, and how few keep the frost off. */
public final class FiresTest {
    public static void main(String[] args) {
        fires();
        firesInOrder();
        men();
        frost();
        frostRing();
        Check.end();
    }

    private static EnginesAsleep planned(int[] minutes, int[] raises) {
        EnginesAsleep x = new EnginesAsleep();
        for (int i = 0; i < minutes.length; i++) {
            x.engine(10, 1, raises[i], false);
            x.train(minutes[i], 0, 1);
            x.plan(i, i);
        }
        return x;
    }

    private static void fires() {
        EnginesAsleep x = new EnginesAsleep();
        x.inside(0);
        Check.due("no trains", x.fires(1, 1), -5000);
        Check.due("w 0", x.fires(0, 1), -5001);
        Check.due("w 121", x.fires(121, 1), -5001);
        Check.due("k 0", x.fires(1, 0), -5001);
        Check.due("k 7", x.fires(1, 7), -5001);
        x.engine(10, 1, 60, false);
        x.train(100, 0, 1);
        Check.due("none planned", x.fires(1, 1), -5000);
        x.plan(0, 0);
        Check.due("one", x.fires(10, 1), 30);
        Check.row("one", x, 30);
        Check.due("w 120, k 6", x.fires(120, 6), -80);
        Check.row("w 120, k 6", x, -80);
        x.dead(0, true);
        Check.due("a dead one is planned and not lit", x.fires(10, 1), 30);
        x.light(0);
        Check.due("it is lit", x.fires(10, 1), -5000);
        Check.row("the row stays", x, 30);
    }

    private static void firesInOrder() {
        EnginesAsleep x = planned(new int[] {100, 100, 120, 300}, new int[] {50, 50, 60, 100});
        // Lit by 50, 50, 60, 200: told as 3, 2, 1, 0.
        Check.due("one man", x.fires(20, 1), 0);
        Check.row("one man", x, 0, 20, 40, 180);
        Check.due("two men", x.fires(20, 2), 20);
        Check.row("two men", x, 20, 30, 40, 180);
        Check.due("three men", x.fires(20, 3), 30);
        Check.row("three men", x, 30, 30, 40, 180);
        x.light(1);
        Check.due("one is lit", x.fires(20, 1), 20);
        Check.row("one is lit", x, 20, -1, 40, 180);
        x.pass(600);
        Check.due("NOW does not count", x.fires(20, 1), 20);
    }

    private static void men() {
        EnginesAsleep x = planned(new int[] {100, 100, 120, 300}, new int[] {50, 50, 60, 100});
        Check.due("w 0", x.men(0), -1);
        Check.due("w 121", x.men(121), -1);
        Check.due("just in time", x.men(20), 1);
        Check.row("men() tells no row", x);
        x.pass(1);
        Check.due("a minute later", x.men(20), 2);
        x.pass(19);
        Check.due("at 20", x.men(20), 2);
        x.pass(1);
        Check.due("at 21", x.men(20), 3);
        x.pass(9);
        Check.due("at 30", x.men(20), 3);
        x.pass(1);
        Check.due("at 31", x.men(20), -2);
        for (int e = 0; e < 4; e++) {
            x.light(e);
        }
        Check.due("none to light", x.men(20), 1);
        Check.due("w 1", x.men(1), 1);
        Check.due("w 120", x.men(120), 1);
        EnginesAsleep y = planned(new int[] {100, 100, 100, 100, 100, 100}, new int[6]);
        y.pass(80);
        Check.due("six men", y.men(20), 6);
        y.pass(1);
        Check.due("six do not", y.men(20), -2);
    }

    private static EnginesAsleep standing(int... stalls) {
        EnginesAsleep x = new EnginesAsleep();
        for (int e = 0; e < stalls.length; e++) {
            x.engine(10, 1, 0, false);
            x.light(e);
            x.move(e, stalls[e]);
        }
        return x;
    }

    private static void frost() {
        EnginesAsleep x = standing(0, 2, 4, 8);
        x.inside(0);
        Check.due("far -1", x.frost(-1), -1);
        Check.due("far 13", x.frost(13), -1);
        Check.row("the row stays", x, 0);
        Check.due("far 0", x.frost(0), 4);
        Check.row("far 0", x, 15);
        Check.due("far 2", x.frost(2), 2);
        Check.row("far 2", x, 0b1010);
        Check.due("far 3: 8 to 0 is three", x.frost(3), 2);
        Check.row("far 3: 8 to 0 is three", x, 0b0011);
        Check.due("far 4", x.frost(4), 1);
        Check.row("far 4", x, 0b0001);
        x.drop(0);
        x.dead(0, true);
        Check.due("lit or not", x.frost(4), 1);
        Check.row("lit or not", x, 0b0001);
        x.move(1, 11);
        x.move(2, 8);
        Check.due("two in one stall", x.frost(0), 2);
        Check.row("two in one stall", x, 0b0101);
        Check.due("far 12", x.frost(12), 1);
    }

    private static void frostRing() {
        EnginesAsleep x = new EnginesAsleep();
        Check.due("none at all", x.frost(0), 0);
        Check.row("none at all", x, 0);
        x.engine(10, 1, 0, false);
        Check.due("on the road alone", x.frost(0), 0);
        EnginesAsleep y = standing(0, 10);
        Check.due("the road is none of these stalls", y.frost(1), 1);
        Check.row("the road is none of these stalls", y, 1);
        EnginesAsleep z = standing(0, 1, 2, 3, 4, 5, 6, 7, 8, 9, 10, 0);
        Check.due("all eleven, far 1", z.frost(1), 4);
        Check.due("all eleven, far 0", z.frost(0), 11);
        Check.row("all eleven, far 0: the first of two", z, 0b011111111111);
        Check.due("all eleven, far 2", z.frost(2), 3);
        EnginesAsleep w = new EnginesAsleep();
        w.ring(12);
        for (int e = 0; e < 12; e++) {
            w.engine(10, 1, 0, false);
            w.light(e);
            w.move(e, e);
        }
        Check.due("twelve in twelve, far 0", w.frost(0), 12);
        Check.row("twelve in twelve, far 0", w, 4095);
        Check.due("all eleven, far 5", z.frost(5), 1);
        Check.row("all eleven, far 5", z, 1);
    }
}
