/** Promises 11 to 17: engines, their fires, and who takes them. */
public final class EnginesTest {
    public static void main(String[] args) {
        engine();
        lightAndDrop();
        dead();
        of();
        takes();
        smoke();
        Check.end();
    }

    private static void engine() {
        EnginesAsleep x = new EnginesAsleep();
        int[][] wrong = {{4, 0, 0}, {31, 0, 0}, {5, -1, 0}, {5, 6, 0}, {5, 0, -1}, {5, 0, 601}, {Integer.MIN_VALUE, 0, 0}, {5, Integer.MAX_VALUE, 0}};
        for (int[] w : wrong) {
            Check.due("engine of others", x.engine(w[0], w[1], w[2], false), -1);
        }
        Check.due("none yet", x.count(1), 0);
        Check.due("the least", x.engine(5, 0, 0, false), 0);
        Check.due("the greatest", x.engine(30, 5, 600, true), 1);
        for (int i = 2; i < 12; i++) {
            Check.due("engine", x.engine(10, 1, 1, false), i);
        }
        Check.due("a thirteenth", x.engine(10, 1, 1, false), -1);
        Check.due("twelve", x.count(1), 12);
        Check.due("on the road", x.of(11, 0), 11);
        Check.due("not lit", x.of(11, 3), -1);
        Check.due("none is dead", x.count(9), 0);
    }

    private static void lightAndDrop() {
        EnginesAsleep x = new EnginesAsleep();
        x.engine(10, 1, 20, false);
        Check.due("light none", x.light(1), false);
        Check.due("light -1", x.light(-1), false);
        Check.due("drop none", x.drop(1), -1);
        Check.due("drop -1", x.drop(-1), -1);
        Check.due("drop one not lit", x.drop(0), -1);
        x.pass(7);
        Check.due("light", x.light(0), true);
        x.pass(5);
        Check.due("light again", x.light(0), false);
        Check.due("lit at", x.of(0, 3), 7);
        Check.due("lit ones", x.count(8), 1);
        Check.due("drop", x.drop(0), 5);
        Check.due("no more", x.of(0, 3), -1);
        Check.due("lit ones, none", x.count(8), 0);
        Check.due("drop again", x.drop(0), -1);
        Check.due("light later", x.light(0), true);
        Check.due("lit at 12", x.of(0, 3), 12);
        Check.due("dropped at once", x.drop(0), 0);
    }

    private static void dead() {
        EnginesAsleep x = new EnginesAsleep();
        x.engine(10, 1, 0, false);
        x.engine(10, 1, 0, false);
        x.light(1);
        Check.due("dead -1", x.dead(-1, true), false);
        Check.due("dead 2", x.dead(2, true), false);
        Check.due("dead 1", x.dead(1, true), true);
        Check.due("dead bits", x.count(9), 2);
        Check.due("dead again", x.dead(1, true), true);
        Check.due("a dead one does not go", x.move(1, 3), -1);
        Check.due("but is in steam", x.of(1, 4), 1);
        Check.due("not dead", x.dead(1, false), true);
        Check.due("none", x.count(9), 0);
        Check.due("goes", x.move(1, 3), 8);
    }

    private static void of() {
        EnginesAsleep x = new EnginesAsleep();
        x.engine(10, 4, 30, false);
        x.engine(12, 2, 0, false);
        Check.ofThrows(x, -1, 0);
        Check.ofThrows(x, 2, 0);
        Check.ofThrows(x, 0, -1);
        Check.ofThrows(x, 0, 7);
        Check.due("class", x.of(0, 2), 4);
        x.light(0);
        x.light(1);
        x.pass(29);
        Check.due("a minute too early", x.of(0, 4), 0);
        x.pass(1);
        Check.due("just in steam", x.of(0, 4), 1);
        Check.due("raise 0", x.of(1, 4), 1);
        Check.due("hood on the road", x.of(0, 6), 0);
        Check.due("back on the road", x.of(0, 1), 0);
        x.move(0, 2);
        x.move(1, 2);
        Check.due("point", x.of(0, 0), 2);
        Check.due("point of the front one", x.of(1, 0), 2);
        Check.due("back", x.of(0, 1), 1);
        Check.due("front", x.of(1, 1), 0);
        Check.due("one is in front", x.of(0, 5), 1);
        Check.due("none is in front", x.of(1, 5), 0);
        x.stall(2, 30, 2);
        Check.due("back hood", x.of(0, 6), 1);
        Check.due("no front hood", x.of(1, 6), 0);
        x.stall(2, 30, 1);
        Check.due("no back hood", x.of(0, 6), 0);
        Check.due("front hood", x.of(1, 6), 1);
        x.move(1, 11);
        Check.due("it stays at its back", x.of(0, 1), 1);
        Check.due("none in front now", x.of(0, 5), 0);
        Check.due("the hood is as it was", x.of(0, 6), 0);
    }

    private static void takes() {
        EnginesAsleep x = new EnginesAsleep();
        x.engine(10, 0, 0, false);
        x.engine(20, 0, 0, false);
        x.engine(21, 0, 0, false);
        x.engine(5, 0, 0, false);
        Check.due("stall -1", x.takes(-1, 0), -1);
        Check.due("stall 11", x.takes(11, 0), -1);
        Check.due("engine 4", x.takes(0, 4), -1);
        Check.due("engine -1", x.takes(0, -1), -1);
        for (int e = 0; e < 4; e++) {
            x.light(e);
        }
        x.move(0, 0);
        Check.due("just as long", x.takes(0, 1), 1);
        Check.due("one too long", x.takes(0, 2), 0);
        Check.due("it is in that one", x.takes(0, 0), 0);
        Check.due("another one, while in a stall", x.takes(1, 0), 1);
        x.move(1, 0);
        x.stall(0, 60, 3);
        Check.due("two are in it", x.takes(0, 3), 0);
        x.shut(5, true);
        Check.due("shut", x.takes(5, 3), 0);
        x.dead(3, true);
        Check.due("dead ones are taken", x.takes(6, 3), 1);
        x.stall(6, 10, 3);
        Check.due("alone too long", x.takes(6, 1), 0);
    }

    private static void smoke() {
        EnginesAsleep x = new EnginesAsleep();
        for (int e = 0; e < 4; e++) {
            x.engine(10, 0, 0, false);
            x.light(e);
        }
        Check.due("on the road no smoke counts", x.smoke(), 0);
        x.move(0, 1);
        x.move(1, 1);
        x.move(2, 2);
        Check.due("all under hoods", x.smoke(), 0);
        x.stall(1, 30, 1);
        Check.due("the back one", x.smoke(), 1);
        x.stall(1, 30, 0);
        x.stall(2, 30, 1);
        Check.due("three", x.smoke(), 7);
        x.drop(1);
        Check.due("not lit", x.smoke(), 5);
        x.dead(0, true);
        Check.due("a dead one smokes", x.smoke(), 5);
    }
}
