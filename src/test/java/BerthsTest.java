/** Promises 25 to 29: who comes and leaves, and where they are put. */
public final class BerthsTest {
    public static void main(String[] args) {
        told();
        nobody();
        put();
        putByOrder();
        putRefused();
        room();
        roomByRow();
        Check.end();
    }

    private static EnginesAsleep of(int... lengths) {
        EnginesAsleep x = new EnginesAsleep();
        for (int length : lengths) {
            x.engine(length, 1, 0, false);
        }
        return x;
    }

    private static void told() {
        EnginesAsleep x = of(10, 10, 10, 10, 10, 10, 10, 10);
        Check.due("comes -1", x.comes(-1), -1);
        Check.due("comes 8", x.comes(8), -1);
        Check.due("leaves one that does not come", x.leaves(0), -1);
        Check.due("comes 3", x.comes(3), 1);
        Check.due("comes 3 again", x.comes(3), -1);
        x.light(0);
        x.move(0, 2);
        Check.due("one in a stall", x.comes(0), -1);
        int many = 1;
        for (int e : new int[] {1, 2, 4, 5, 6}) {
            many++;
            Check.due("comes", x.comes(e), many);
        }
        Check.due("a seventh", x.comes(7), -1);
        Check.due("who come", x.count(5), 6);
        Check.due("leaves -1", x.leaves(-1), -1);
        Check.due("leaves 8", x.leaves(8), -1);
        Check.due("leaves 7", x.leaves(7), -1);
        Check.due("leaves 6", x.leaves(6), 1);
        Check.due("leaves 6 again", x.leaves(6), -1);
        Check.due("leaves 3", x.leaves(3), 2);
        Check.due("who leave", x.count(6), 2);
    }

    private static void nobody() {
        EnginesAsleep x = of(10, 10);
        Check.due("nobody yet", x.nobody(), 0);
        x.comes(0);
        x.comes(1);
        x.leaves(0);
        Check.due("two", x.nobody(), 2);
        Check.due("none come", x.count(5), 0);
        Check.due("none leave", x.count(6), 0);
        Check.due("comes again", x.comes(0), 1);
        Check.due("leaves again", x.leaves(0), 1);
    }

    private static void comeAll(EnginesAsleep x, int many) {
        for (int e = 0; e < many; e++) {
            x.comes(e);
        }
    }

    private static void leave(EnginesAsleep x, int... engines) {
        for (int e : engines) {
            x.leaves(e);
        }
    }

    private static void put() {
        EnginesAsleep x = of(10, 15, 20, 10);
        x.inside(0);
        Check.due("none comes", x.put(), -1);
        comeAll(x, 2);
        leave(x, 1);
        Check.due("not all leave", x.put(), -1);
        leave(x, 0);
        Check.due("two in one", x.put(), 8);
        Check.row("two in one", x, 0, 0);
        x.stall(0, 24, 3);
        Check.due("0 is too short for both", x.put(), 8);
        Check.row("0 is too short for both", x, 0, 10);
        x.stall(10, 10, 3);
        Check.due("1 is too long for 10", x.put(), 8);
        Check.row("1 is too long for 10", x, 10, 0);
        x.stall(0, 10, 3);
        Check.due("1 goes further", x.put(), 12);
        Check.row("1 goes further", x, 0, 1);
        x.shut(1, true);
        Check.row("before", x, 0, 1);
        Check.due("1 is shut", x.put(), 12);
        Check.row("1 is shut", x, 0, 9);
        Check.due("nothing changed", x.count(7), 0);
        x.light(3);
        x.move(3, 9);
        Check.due("one stands in 9", x.put(), 4 + 12);
        Check.row("one stands in 9", x, 0, 2);
        x.set(0, 9);
        Check.due("TURN does not count", x.put(), 16);
    }

    private static void putByOrder() {
        EnginesAsleep x = of(10, 10, 10, 10, 10, 10);
        comeAll(x, 6);
        leave(x, 0, 1, 2, 3, 4, 5);
        Check.due("first in, first out: one each", x.put(), 4 * (1 + 1 + 2 + 2 + 3 + 3));
        Check.row("first in, first out: one each", x, 0, 1, 2, 8, 9, 10);
        x.nobody();
        comeAll(x, 6);
        leave(x, 5, 4, 3, 2, 1, 0);
        Check.due("last in, first out: two each", x.put(), 4 * (2 + 2 + 4));
        Check.row("last in, first out: two each", x, 0, 0, 1, 1, 10, 10);
        Check.rule(x, "b");
        Check.due("backs alone", x.put(), 48);
        Check.rule(x, "!b|n>3");
        Check.due("backs beyond 3", x.put(), 4 * (2 + 4 + 6));
        Check.row("backs beyond 3", x, 8, 8, 9, 9, 10, 10);
        Check.rule(x, "h");
        x.stall(0, 30, 2);
        x.put();
        Check.row("no hood over the front of 0", x, 0, 1, 1, 9, 10, 10);
        Check.rule(x, "s");
        Check.due("none is in steam", x.put(), -2);
        Check.rule(x, "n<3");
        Check.due("three stalls", x.put(), 4 * (2 + 4 + 6));
        Check.rule(x, "n<2");
        Check.due("two stalls", x.put(), -2);
    }

    private static void putRefused() {
        EnginesAsleep x = of(10, 10, 30);
        comeAll(x, 2);
        leave(x, 0, 1);
        x.put();
        x.light(0);
        x.move(0, 3);
        Check.due("one is on the road no more", x.put(), -2);
        Check.row("the row stays", x, 0, 10);
        x.comes(2);
        Check.due("not all leave comes first", x.put(), -1);
        x.move(0, 11);
        leave(x, 2);
        for (int s = 0; s < 11; s++) {
            x.stall(s, 29, 3);
        }
        Check.due("alone too long", x.put(), -2);
        Check.due("they are told yet", x.nobody(), 3);
    }

    private static void room() {
        EnginesAsleep x = of(10, 15, 20, 30);
        Check.due("none told", x.room(0), -1);
        Check.due("none such", x.room(16), -1);
        Check.due("the highest bit", x.room(Integer.MIN_VALUE), -1);
        Check.due("all", x.room(15), 4);
        Check.row("all", x, 0, 1, 2, 3);
        for (int s = 1; s < 11; s++) {
            x.shut(s, true);
        }
        Check.due("one stall", x.room(15), 1);
        Check.row("the last one has it", x, -1, -1, -1, 0);
        x.stall(0, 20, 3);
        x.room(15);
        Check.row("the last one that fits", x, -1, -1, 0, -1);
        x.light(0);
        x.move(0, 0);
        Check.due("one is in a stall", x.room(15), -1);
        Check.due("none fits behind it", x.room(14), 0);
        Check.row("none fits behind it", x, -1, -1, -1);
        x.stall(0, 25, 3);
        Check.due("a front place", x.room(14), 1);
        Check.row("a front place", x, 0, -1, -1);
        Check.due("nothing changed", x.inside(0), 1);
    }

    private static void roomByRow() {
        EnginesAsleep x = of(10, 20, 30);
        for (int s = 0; s < 11; s++) {
            x.shut(s, s > 2);
        }
        x.stall(0, 30, 3);
        x.stall(1, 20, 3);
        x.stall(2, 10, 3);
        Check.due("each its own", x.room(7), 3);
        Check.row("each its own", x, 2, 1, 0);
        x.shut(3, false);
        Check.due("one more stall", x.room(7), 3);
        Check.row("one more stall", x, 0, 1, 3);
        x.shut(1, true);
        x.shut(2, true);
        Check.due("two stalls", x.room(7), 2);
        Check.row("two stalls", x, -1, 0, 3);
        Check.rule(x, "l=10|n=0");
        Check.due("0 for all, 3 for 10 only", x.room(7), 2);
        Check.row("0 for all, 3 for 10 only", x, 3, -1, 0);
    }
}
