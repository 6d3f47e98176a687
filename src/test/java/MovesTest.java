/** Promises 18 to 24: moves, and the ways to get engines out and under hoods. */
public final class MovesTest {
    public static void main(String[] args) {
        pass();
        move();
        drag();
        free();
        order();
        orderOverTime();
        clear();
        under();
        underByTwo();
        Check.end();
    }

    /** Engines of these lengths, class 1, raise 0, lit. */
    private static EnginesAsleep lit(int... lengths) {
        EnginesAsleep x = new EnginesAsleep();
        for (int i = 0; i < lengths.length; i++) {
            x.engine(lengths[i], 1, 0, false);
            x.light(i);
        }
        return x;
    }

    private static void pass() {
        EnginesAsleep x = new EnginesAsleep();
        Check.due("pass(0)", x.pass(0), 0);
        Check.due("pass(600)", x.pass(600), 600);
        Check.due("pass(601)", x.pass(601), -1);
        Check.due("pass(-1)", x.pass(-1), -1);
        Check.due("now", x.count(2), 600);
        Check.due("pass(5)", x.pass(5), 605);
    }

    private static void move() {
        EnginesAsleep x = lit(10, 15, 20);
        x.engine(10, 1, 30, false);
        Check.due("not lit", x.move(3, 0), -1);
        x.light(3);
        Check.due("not in steam", x.move(3, 0), -1);
        Check.due("none such", x.move(4, 0), -1);
        Check.due("engine -1", x.move(-1, 0), -1);
        Check.due("point 12", x.move(0, 12), -1);
        Check.due("point -1", x.move(0, -1), -1);
        Check.due("road to road", x.move(0, 11), -1);
        Check.due("nothing passed", x.count(2), 0);
        Check.due("0 to 5", x.move(0, 5), 6 + 4);
        Check.due("1 to 5", x.move(1, 5), 6 + 6 + 4);
        Check.due("now", x.count(2), 26);
        Check.due("table", x.count(3), 5);
        Check.due("one behind another", x.move(0, 6), -1);
        Check.due("no room for 2", x.move(2, 5), -1);
        Check.due("to where it is", x.move(1, 5), -1);
        String before = Check.seen(x);
        x.shut(7, true);
        Check.due("a shut one", x.move(2, 7), -1);
        x.shut(7, false);
        Check.same("refused moves", before, Check.seen(x));
        Check.due("just in steam at 30", x.pass(4), 30);
        Check.due("from stall to stall", x.move(1, 4), 1 + 4);
        Check.due("the back one alone", x.of(0, 1), 1);
        Check.due("it can go now", x.move(0, 3), 1 + 2 + 4);
        Check.due("3 in steam", x.move(3, 10), 4 + 1 + 4);
        x.set(0, 2);
        x.set(1, 0);
        Check.due("TURN 2, GO 0", x.move(0, 9), 2 * (5 + 6));
        x.set(1, 9);
        Check.due("to the road", x.move(0, 11), 2 * 2 + 18);
        Check.due("a move takes what comes then", x.of(0, 0), 11);
    }

    private static void drag() {
        EnginesAsleep x = lit(10, 10, 10, 10);
        x.engine(10, 1, 600, false);
        Check.due("none such", x.drag(5, 0, 3), -1);
        Check.due("by none such", x.drag(4, 5, 3), -1);
        Check.due("by itself", x.drag(0, 0, 3), -1);
        Check.due("to no point", x.drag(4, 0, 12), -1);
        Check.due("to point -1", x.drag(4, 0, -1), -1);
        Check.due("by one not lit", x.drag(0, 4, 3), -1);
        Check.due("to where it is", x.drag(4, 0, 11), -1);
        Check.due("a cold one to a stall", x.drag(4, 0, 3), 2 * (4 + 4));
        Check.due("now", x.count(2), 16);
        Check.due("table", x.count(3), 3);
        Check.due("by is on the road", x.of(0, 0), 11);
        Check.due("one that may go is dragged too", x.drag(1, 0, 3), 2 * (4 + 4 + 4));
        Check.due("a back one", x.drag(4, 0, 5), -1);
        x.move(2, 7);
        Check.due("by one in a stall", x.drag(1, 2, 5), -1);
        x.dead(3, true);
        Check.due("by a dead one", x.drag(1, 3, 5), -1);
        Check.due("a dead one", x.drag(3, 0, 8), 2 * (4 + 3 + 4));
        x.shut(9, true);
        Check.due("to a shut one", x.drag(3, 0, 9), -1);
        Check.due("a front one to the road", x.drag(1, 0, 11), 2 * (5 + 4 + 4));
    }

    private static void free() {
        EnginesAsleep x = lit(10, 15, 20);
        Check.due("none such", x.free(3), -1);
        Check.due("engine -1", x.free(-1), -1);
        Check.due("on the road", x.free(0), -1);
        x.move(0, 5);
        Check.due("alone", x.free(0), 6 + 4);
        Check.row("alone", x, -1);
        x.move(1, 5);
        x.inside(5);
        String before = Check.seen(x);
        Check.due("one goes aside", x.free(0), 5 + 11);
        Check.row("the first point of equal ones", x, 4);
        x.inside(5);
        Check.same("free()", before, Check.seen(x));
        x.shut(4, true);
        x.free(0);
        Check.row("the other one", x, 6);
        x.shut(6, true);
        Check.due("further", x.free(0), 6 + 12);
        Check.row("further", x, 3);
        for (int s = 0; s < 11; s++) {
            x.shut(s, true);
        }
        Check.due("to the road", x.free(0), 10 + 16);
        Check.row("the road", x, 11);
        for (int s = 0; s < 11; s++) {
            x.shut(s, false);
        }
        Check.due("the front one", x.free(1), 10);
        Check.row("none in front of it", x, -1);
        x.dead(1, true);
        Check.due("the one in front is dead", x.free(0), -2);
        Check.row("the row stays", x, -1);
        x.dead(1, false);
        x.drop(0);
        Check.due("it is cold", x.free(0), -2);
        Check.due("the front one goes", x.free(1), 10);
        x.light(0);
        Check.rule(x, "n>6");
        x.free(0);
        Check.row("where the rule lets it", x, 7);
        Check.rule(x, "!b");
        x.free(0);
        Check.row("no back is let", x, 11);
        EnginesAsleep y = lit(10, 10);
        y.ring(23);
        y.move(0, 11);
        y.move(1, 11);
        for (int s = 0; s < 23; s++) {
            y.shut(s, true);
        }
        Check.due("the road is just opposite", y.free(0), 12 + 4 + 24 + 4);
        Check.row("the road is just opposite", y, 23);
    }

    private static void order() {
        EnginesAsleep x = lit(10, 15, 20, 10, 10, 10, 10);
        x.move(0, 5);
        x.move(1, 5);
        x.move(2, 9);
        Check.due("none told", x.order(0), -1);
        Check.due("one on the road", x.order(8 | 1), -1);
        Check.due("none such", x.order(1 << 12), -1);
        Check.due("the highest bit", x.order(Integer.MIN_VALUE), -1);
        Check.due("one alone", x.order(4), 2 + 4);
        Check.row("one alone", x, 2);
        Check.due("the front one first", x.order(3), 4 + 6 + 4 + 16);
        Check.row("the front one first", x, 1, 0);
        Check.due("three", x.order(7), 14 + 16 + 8);
        Check.row("three, as good as 2, 1, 0", x, 1, 0, 2);
        x.inside(10);
        x.dead(1, true);
        Check.due("none can", x.order(3), -2);
        Check.row("the row stays", x);
        x.dead(1, false);
        for (int e = 3; e < 7; e++) {
            x.move(e, e - 3);
        }
        Check.due("six", x.order(0b111111), -1);
        Check.due("five", x.order(0b1111001) > 0, true);
        for (int s = 0; s < 11; s++) {
            x.shut(s, true);
        }
        x.move(2, 11);
        Check.due("one that went aside to the road takes none", x.order(3), order3());
    }

    /** From stall 5 with the table at the road: the front one out (aside) and the back one, in either order. */
    private static int order3() {
        return (6 + 6 + 4) + (6 + 6 + 4);
    }

    /** A second engine comes in steam while the first goes out. */
    private static void orderOverTime() {
        EnginesAsleep x = new EnginesAsleep();
        x.engine(10, 1, 0, false);
        x.engine(10, 1, 0, false);
        x.engine(10, 1, 20, false);
        x.light(0);
        x.light(1);
        x.move(0, 3);
        x.drag(2, 1, 4);
        x.light(2);
        x.pass(15);
        Check.due("2 is not in steam alone", x.order(4), -2);
        Check.due("0 takes 9 minutes, then 2 is", x.order(5), (1 + 4 + 4) + (5 + 5 + 4));
        Check.row("0 first", x, 0, 2);
    }

    private static void clear() {
        EnginesAsleep x = lit(10, 15, 20);
        Check.due("none such", x.clear(11), -1);
        Check.due("stall -1", x.clear(-1), -1);
        x.move(0, 5);
        x.free(0);
        Check.due("empty", x.clear(4), 0);
        Check.row("empty", x);
        Check.due("one", x.clear(5), 5);
        Check.row("one", x, 4);
        x.move(1, 5);
        Check.due("two", x.clear(5), 5 + 6);
        Check.row("both to one", x, 4, 4);
        x.stall(4, 20, 3);
        Check.due("two, 4 has room for one", x.clear(5), 5 + 6);
        Check.row("two, 4 has room for one", x, 4, 6);
        x.shut(4, true);
        x.shut(6, true);
        Check.due("two, two away", x.clear(5), 6 + 8);
        Check.row("two, two away", x, 3, 3);
        Check.due("nothing changed", x.inside(5), 2);
        for (int s = 0; s < 11; s++) {
            x.shut(s, true);
        }
        Check.due("both to the road", x.clear(5), 10 + 16);
        Check.row("both to the road", x, 11, 11);
        x.dead(0, true);
        Check.due("the back one is dead", x.clear(5), -2);
        Check.row("the row stays", x, 11, 11);
        x.dead(0, false);
        x.drop(1);
        Check.due("the front one is cold", x.clear(5), -2);
        EnginesAsleep y = new EnginesAsleep();
        y.engine(10, 1, 0, false);
        y.engine(10, 1, 10, false);
        y.light(0);
        y.drag(1, 0, 3);
        y.move(0, 3);
        y.light(1);
        y.pass(5);
        Check.due("the second is in steam as it begins", y.clear(3), 5 + 1 + 1 + 4);
        Check.row("the second is in steam as it begins", y, 2, 2);
        y.drop(1);
        y.light(1);
        Check.due("a longer way lets it be in steam", y.clear(3), (6 + 4) + (6 + 1 + 4));
        Check.row("a longer way lets it be in steam", y, 9, 2);
    }

    private static void under() {
        EnginesAsleep x = lit(10, 15, 20);
        x.move(0, 5);
        x.move(1, 5);
        Check.due("no smoke", x.under(), 0);
        Check.row("no smoke", x);
        x.stall(5, 30, 2);
        Check.due("the front one", x.under(), 1);
        Check.row("the front one", x, 1, 4);
        x.stall(4, 30, 1);
        Check.due("no hood over the back of 4", x.under(), 1);
        Check.row("no hood over the back of 4", x, 1, 6);
        x.dead(1, true);
        Check.due("it is dead", x.under(), -2);
        x.dead(1, false);
        x.stall(5, 30, 0);
        Check.due("both", x.under(), 2);
        Check.row("both", x, 1, 6, 0, 6);
        Check.due("nothing changed", x.smoke(), 3);
        x.move(2, 4);
        Check.due("three smoke", x.under(), -2);
        Check.row("the row stays", x, 1, 6, 0, 6);
        for (int s = 0; s < 11; s++) {
            x.stall(s, 30, 0);
        }
        x.move(2, 11);
        x.move(1, 11);
        Check.due("no hood anywhere", x.under(), -2);
    }

    private static void underByTwo() {
        EnginesAsleep x = lit(10, 10, 10);
        x.move(0, 5);
        x.move(1, 5);
        x.stall(5, 30, 1);
        Check.due("one in front of the smoker", x.under(), 2);
        Check.row("one in front of the smoker", x, 1, 4, 0, 4);
        for (int s = 0; s < 11; s++) {
            x.stall(s, 30, 1);
        }
        Check.due("a back has to be taken first", x.under(), -2);
        x.move(1, 11);
        x.move(1, 3);
        x.engine(10, 1, 0, false);
        x.drop(1);
        Check.due("a cold one at a back: its front is good", x.under(), 1);
        Check.row("a cold one at a back: its front is good", x, 0, 3);
        x.light(1);
        Check.due("two smoke at backs: one goes in front, the other has none", x.under(), -2);
        x.stall(7, 30, 2);
        Check.due("one goes to 7, the other too", x.under(), -2);
        x.stall(7, 30, 3);
        Check.due("both places of 7", x.under(), 2);
        Check.row("both places of 7", x, 1, 7, 0, 7);
    }
}
