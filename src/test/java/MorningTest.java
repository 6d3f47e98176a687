/** Promises 47 and 48: the morning gone through, and why a train is late. */
public final class MorningTest {
    public static void main(String[] args) {
        onRoad();
        oneTable();
        aside();
        coldOnes();
        cannot();
        order();
        why();
        whyCannot();
        Check.end();
    }

    private static EnginesAsleep standing(int... stalls) {
        EnginesAsleep x = new EnginesAsleep();
        for (int e = 0; e < stalls.length; e++) {
            x.engine(10, 1, 0, false);
            x.light(e);
            if (stalls[e] < 11) {
                x.move(e, stalls[e]);
            }
        }
        return x;
    }

    private static void onRoad() {
        EnginesAsleep x = new EnginesAsleep();
        x.inside(0);
        Check.due("no trains", x.morning(), 0);
        Check.row("no trains", x);
        x.engine(10, 1, 30, false);
        x.train(40, 0, 1);
        Check.due("none planned", x.morning(), 0);
        Check.row("none planned", x, -2);
        x.plan(0, 0);
        Check.due("lit now it is in time", x.morning(), 0);
        Check.row("lit now it is in time", x, 0);
        x.pass(10);
        Check.due("just in time", x.morning(), 0);
        x.pass(5);
        Check.due("too late", x.morning(), 5);
        Check.row("too late", x, 5);
        Check.due("it is not lit behind it", x.of(0, 3), -1);
        Check.due("NOW stays", x.count(2), 15);
        x.light(0);
        x.pass(600);
        Check.due("in steam, but NOW is late", x.morning(), 575);
    }

    private static void oneTable() {
        EnginesAsleep x = standing(2, 5);
        // Now 7 + 3 + 6 + 4 = 20, the table at 5.
        Check.due("now", x.count(2), 20);
        x.train(25, 0, 1);
        x.train(30, 0, 1);
        x.plan(0, 0);
        x.plan(1, 1);
        // 0: 20 + 3 + 3 + 4 = 30; 1: 30 + 6 + 6 + 4 = 46.
        Check.due("sum", x.morning(), 5 + 16);
        Check.row("late", x, 5, 16);
        x.plan(0, -1);
        // 1 alone: 20 + 6 + 4 = 30.
        Check.due("alone", x.morning(), 0);
        Check.row("alone", x, -2, 0);
        Check.due("nothing moved", x.count(7), 3);
        Check.due("the table stays", x.count(3), 5);
        x.set(0, 2);
        Check.due("TURN", x.morning(), 6);
    }

    private static void aside() {
        EnginesAsleep x = standing(5, 5);
        // Now 10 + 16 = 26, the table at 5.
        x.train(26, 0, 1);
        x.train(26, 0, 1);
        x.plan(0, 0);
        // 1 aside to 4: 5; 0: 1 + 6 + 4 = 11.
        Check.due("aside", x.morning(), 16);
        Check.row("aside", x, 16, -2);
        x.plan(1, 1);
        // Then 1 from 4: 5 + 5 + 4 = 14.
        Check.due("then the other from where it went", x.morning(), 16 + 30);
        Check.row("then the other from where it went", x, 16, 30);
        for (int s = 0; s < 11; s++) {
            x.shut(s, true);
        }
        // 1 to the road: 6 + 4 = 10; 0: 6 + 6 + 4 = 16; 1 is on the road.
        Check.due("aside to the road", x.morning(), 26);
        Check.row("aside to the road", x, 26, 0);
        Check.due("nothing changed", x.inside(5), 2);
    }

    private static void coldOnes() {
        EnginesAsleep x = new EnginesAsleep();
        x.engine(10, 1, 50, false);
        x.engine(10, 1, 80, false);
        x.engine(10, 1, 0, false);
        x.light(2);
        x.drag(0, 2, 5);
        x.drag(1, 2, 5);
        // Now 20 + 32 = 52, the table at 5.
        x.train(100, 0, 1);
        x.plan(0, 0);
        // Both lit at 52; in steam at 102 and 132; 132 + 16 = 148.
        Check.due("the one in front is cold too", x.morning(), 48);
        x.light(1);
        x.pass(60);
        // 1 in steam at 132; 0 lit at 112, in steam at 162; 178.
        Check.due("0 is lit now", x.morning(), 78);
        x.plan(0, 1);
        // 132 + 10.
        Check.due("the front one", x.morning(), 42);
        Check.due("not lit behind it", x.of(0, 3), -1);
    }

    private static void cannot() {
        EnginesAsleep x = standing(5, 5, 11);
        x.train(0, 0, 1);
        x.train(0, 0, 1);
        x.train(0, 0, 1);
        x.plan(0, 0);
        x.plan(1, 1);
        x.dead(1, true);
        // Now 26; 0 can't, as 1 is dead.
        Check.due("both can't", x.morning(), 0);
        Check.row("both can't", x, -1, -1, -2);
        x.dead(1, false);
        x.dead(0, true);
        Check.due("the back one can't", x.morning(), 36);
        Check.row("the back one can't", x, -1, 36, -2);
        x.dead(2, true);
        x.plan(2, 2);
        x.morning();
        Check.row("a dead one on the road", x, -1, 36, -1);
    }

    private static void order() {
        EnginesAsleep x = standing(2, 5, 8);
        // Now 7 + 12 ... : 7, 3 + 6 + 4 = 13, 6 + 3 + 4 = 13: 33, the table at 8.
        Check.due("now", x.count(2), 33);
        x.train(100, 0, 1);
        x.train(33, 0, 1);
        x.train(33, 0, 1);
        x.plan(0, 0);
        x.plan(1, 1);
        x.plan(2, 2);
        // 1: 33 + 3 + 6 + 4 = 46; 2: 46 + 3 + 3 + 4 = 56; 0: in time.
        Check.due("by minute, then by number", x.morning(), 13 + 23);
        Check.row("by minute, then by number", x, 0, 13, 23);
    }

    private static void why() {
        EnginesAsleep x = standing(2, 5, 5, 11);
        // Now 7 + (3 + 6 + 4) + (6 + 6 + 4) = 36, the table at 5.
        Check.due("now", x.count(2), 36);
        x.train(46, 0, 1);
        x.train(50, 0, 1);
        x.train(200, 0, 1);
        x.train(60, 0, 1);
        x.inside(0);
        Check.due("none such", x.why(4), -1);
        Check.due("train -1", x.why(-1), -1);
        Check.due("no engine", x.why(0), -2);
        x.plan(0, 0);
        x.plan(1, 2);
        x.plan(2, 1);
        // 0: 36 + 3 + 3 + 4 = 46; 2: 46 + 6 + 6 + 4 = 62; 1: 72 alone.
        Check.due("not late", x.why(0), 0);
        Check.row("the row stays", x);
        Check.due("the table", x.why(1), 1);
        Check.row("it ought to begin at 34", x, 12, 2, 0);
        Check.due("in time", x.why(2), 0);
        x.plan(1, -1);
        x.plan(2, -1);
        x.plan(3, 1);
        // 1: begins at 46: 2 aside to 4: 6 + 1 + 4 = 11, then 1 + 6 + 4 = 11: 68; ought to begin at 49.
        Check.due("the one in front", x.why(3), 3);
        Check.row("the one in front", x, 0, 0, 11);
        x.drop(2);
        x.engine(10, 1, 40, false);
        x.train(70, 0, 1);
        x.plan(4, 4);
        Check.due("steam, on the road", x.why(4), 2);
        Check.row("steam, on the road", x, 0, 6, 0);
        x.drop(1);
        Check.due("relit now it is in steam at once", x.why(3), 3);
        x.plan(0, -1);
        x.plan(3, -1);
        x.plan(1, 3);
        x.pass(30);
        Check.due("on the road in steam, but NOW is late", x.why(1), 2);
        Check.row("on the road in steam, but NOW is late", x, 0, 16, 0);
        EnginesAsleep y = standing(5);
        y.train(10, 0, 1);
        y.plan(0, 0);
        Check.due("equal ones: the first", y.why(0), 1);
        Check.row("equal ones: the first", y, 10, 10, 0);
        EnginesAsleep u = standing(5, 5);
        u.train(32, 0, 1);
        u.plan(0, 0);
        // Now 26: aside 5, its own 11: ought to begin at 21.
        Check.due("all three are equal", u.why(0), 1);
        Check.row("all three are equal", u, 5, 5, 5);
        EnginesAsleep v = new EnginesAsleep();
        v.engine(10, 1, 40, false);
        v.engine(10, 1, 0, false);
        v.light(1);
        v.drag(0, 1, 5);
        v.move(1, 5);
        v.train(82, 0, 1);
        v.plan(0, 0);
        // Now 36: in steam at 76, ought to begin at 71.
        Check.due("the second and the third are equal", v.why(0), 2);
        Check.row("the second and the third are equal", v, 0, 5, 5);
        EnginesAsleep z = new EnginesAsleep();
        z.engine(10, 1, 50, false);
        z.engine(10, 1, 0, false);
        z.light(1);
        z.drag(0, 1, 0);
        z.train(40, 0, 1);
        z.plan(0, 0);
        // Now 10; in steam at 60; 5 minutes of its own: ought to begin at 35.
        Check.due("steam, in a stall", z.why(0), 2);
        Check.row("steam, in a stall", z, 0, 25, 0);
    }

    private static void whyCannot() {
        EnginesAsleep x = standing(5, 5);
        x.train(0, 0, 1);
        x.plan(0, 0);
        x.inside(5);
        x.dead(1, true);
        Check.due("the one in front is dead", x.why(0), 5);
        Check.row("the row stays", x, 0, 1);
        x.dead(1, false);
        x.dead(0, true);
        Check.due("it is dead", x.why(0), 5);
        Check.due("nothing changed", x.inside(5), 2);
    }
}
