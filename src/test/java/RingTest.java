/** Promises 1 to 9: a new object, the ring, its stalls, its table, and THE TEXT. */
public final class RingTest {
    public static void main(String[] args) {
        newObject();
        ring();
        stall();
        sheet();
        shut();
        set();
        steps();
        sign();
        end();
        Check.end();
    }

    private static void newObject() {
        EnginesAsleep x = new EnginesAsleep();
        int[] due = {11, 0, 0, 11, 0, 0, 0, 0, 0, 0, 0, 0};
        for (int what = 0; what < due.length; what++) {
            Check.due("new count(" + what + ")", x.count(what), due[what]);
        }
        Check.due("NONE", EnginesAsleep.NONE, -1);
        Check.rowThrows(x, 0);
        Check.ofThrows(x, 0, 0);
        Check.due("new again(0)", x.again(0), false);
        Check.due("new morning()", x.morning(), 0);
        Check.due("new put()", x.put(), -1);
    }

    private static void ring() {
        EnginesAsleep x = new EnginesAsleep();
        Check.due("ring(3)", x.ring(3), -1);
        Check.due("ring(24)", x.ring(24), -1);
        Check.due("ring(min)", x.ring(Integer.MIN_VALUE), -1);
        Check.due("ring(4)", x.ring(4), 11);
        Check.due("ring(23)", x.ring(23), 4);
        Check.due("table", x.count(3), 23);
        x.engine(30, 0, 0, false);
        x.light(0);
        x.stall(2, 10, 0);
        x.shut(3, true);
        x.move(0, 22);
        Check.due("ring with one inside", x.ring(8), -1);
        Check.due("stalls stay", x.count(0), 23);
        Check.due("table stays", x.count(3), 22);
        x.move(0, 23);
        x.move(0, 5);
        x.drop(0);
        x.light(0);
        x.move(0, 23);
        Check.due("ring(23) again", x.ring(23), 23);
        Check.due("stall 2 as at first", x.takes(2, 0), 1);
        Check.due("stall 3 as at first", x.takes(3, 0), 1);
        x.move(0, 2);
        Check.due("hoods as at first", x.of(0, 6), 1);
        x.move(0, 23);
        x.ring(4);
        Check.due("the road is the new last point", x.of(0, 0), 4);
        Check.due("the table is there", x.count(3), 4);
    }

    private static void stall() {
        EnginesAsleep x = new EnginesAsleep();
        x.engine(30, 0, 0, false);
        x.engine(30, 0, 0, false);
        x.light(0);
        x.light(1);
        Check.due("stall(-1)", x.stall(-1, 30, 0), false);
        Check.due("stall(11)", x.stall(11, 30, 0), false);
        Check.due("LONG 9", x.stall(0, 9, 0), false);
        Check.due("LONG 61", x.stall(0, 61, 0), false);
        Check.due("HOODS -1", x.stall(0, 30, -1), false);
        Check.due("HOODS 4", x.stall(0, 30, 4), false);
        Check.due("LONG 10", x.stall(0, 10, 0), true);
        Check.due("too short", x.takes(0, 0), 0);
        Check.due("LONG 60", x.stall(0, 60, 3), true);
        x.move(0, 0);
        x.move(1, 0);
        Check.due("both are inside", x.inside(0), 2);
        Check.due("59 for 60", x.stall(0, 59, 3), false);
        Check.due("hoods stay", x.smoke(), 0);
        Check.due("60 for 60, front hood gone", x.stall(0, 60, 2), true);
        Check.due("front smokes", x.smoke(), 2);
        Check.due("back hood gone", x.stall(0, 60, 1), true);
        Check.due("back smokes", x.smoke(), 1);
        Check.due("no hood", x.stall(0, 60, 0), true);
        Check.due("both smoke", x.smoke(), 3);
    }

    private static void sheet() {
        EnginesAsleep x = new EnginesAsleep();
        Check.due("ints", x.sheet(2, 3, 20, 5), 20 + 25 + 30 + 8 * 30);
        Check.due("none of ints", x.sheet(2, 0, 99, 99), 330);
        Check.due("all of them, clamped", x.sheet(2, 11, -5, 7), 10 + 10 + 10 + 16 + 23 + 30 + 37 + 44 + 51 + 58 + 60);
        Check.due("bytes lose high bits", x.sheet(0, 2, 256 + 40, 256), 40 + 40 + 9 * 30);
        Check.due("bytes have a sign", x.sheet(0, 1, 128, 0), 10 + 10 * 30);
        Check.due("a byte 127", x.sheet(0, 1, 127, 0), 60 + 10 * 30);
        Check.due("shorts lose high bits", x.sheet(1, 1, 65536 + 12, 0), 12 + 10 * 30);
        Check.due("shorts have a sign", x.sheet(1, 1, 32768, 0), 10 + 10 * 30);
        Check.due("a short 256 is not cut", x.sheet(1, 1, 256 + 12, 0), 60 + 10 * 30);
        Check.due("ints go round", x.sheet(2, 2, Integer.MAX_VALUE, 1), 60 + 10 + 9 * 30);
        x.engine(30, 0, 0, false);
        Check.due("stall 1 is short", x.takes(1, 0), 0);
        Check.due("n below 0", x.sheet(2, -1, 40, 0), -2);
        Check.due("nothing changed", x.takes(1, 0), 0);
        Check.due("kind 4", x.sheet(4, 1, 40, 0), -1);
        Check.due("kind -1", x.sheet(-1, 1, 40, 0), -1);
        Check.due("n above", x.sheet(0, 12, 40, 0), -1);
        Check.due("another kind comes first", x.sheet(4, -1, 40, 0), -1);
        Check.due("nothing changed yet", x.takes(1, 0), 0);
        Check.due("a missing one", x.sheet(3, 0, 40, 0), -3);
        Check.due("all are 30", x.takes(1, 0), 1);
        Check.due("hoods and shut stay", x.shut(2, true), true);
        x.stall(3, 30, 0);
        x.sheet(2, 11, 40, 0);
        Check.due("shut stays", x.takes(2, 0), 0);
        x.light(0);
        x.move(0, 3);
        Check.due("hoods stay", x.smoke(), 1);
        Check.due("one is inside", x.sheet(2, 1, 40, 0), -1);
        Check.due("one is inside, missing", x.sheet(3, 1, 40, 0), -1);
        Check.due("one is inside, n below 0", x.sheet(2, -1, 40, 0), -1);
    }

    private static void shut() {
        EnginesAsleep x = new EnginesAsleep();
        x.engine(10, 0, 0, false);
        Check.due("shut(-1)", x.shut(-1, true), false);
        Check.due("shut(11)", x.shut(11, true), false);
        Check.due("shut(10)", x.shut(10, true), true);
        Check.due("takes none", x.takes(10, 0), 0);
        Check.due("shut again", x.shut(10, true), true);
        Check.due("opened", x.shut(10, false), true);
        Check.due("takes it", x.takes(10, 0), 1);
        x.light(0);
        x.move(0, 10);
        Check.due("shut with one inside", x.shut(10, true), true);
        Check.due("who is inside can go out", x.move(0, 11), 5);
    }

    private static void set() {
        EnginesAsleep x = new EnginesAsleep();
        Check.due("TURN 0", x.set(0, 0), -1);
        Check.due("TURN 10", x.set(0, 10), -1);
        Check.due("GO -1", x.set(1, -1), -1);
        Check.due("GO 10", x.set(1, 10), -1);
        Check.due("what 2", x.set(2, 1), -1);
        Check.due("what -1", x.set(-1, 1), -1);
        Check.due("TURN 9", x.set(0, 9), 1);
        Check.due("TURN 1", x.set(0, 1), 9);
        Check.due("TURN 3", x.set(0, 3), 1);
        Check.due("GO 9", x.set(1, 9), 2);
        Check.due("GO 0", x.set(1, 0), 9);
        x.engine(10, 0, 0, false);
        x.light(0);
        Check.due("TURN alone counts", x.move(0, 3), 12);
        x.set(1, 5);
        Check.due("GO counts twice", x.move(0, 4), 3 + 10);
    }

    private static void steps() {
        EnginesAsleep x = new EnginesAsleep();
        Check.due("the shorter way", x.steps(11, 0), 1);
        Check.due("half way", x.steps(0, 6), 6);
        Check.due("beyond half", x.steps(0, 7), 5);
        Check.due("back", x.steps(7, 0), 5);
        Check.due("to itself", x.steps(7, 7), 0);
        Check.due("from -1", x.steps(-1, 0), -1);
        Check.due("to 12", x.steps(0, 12), -1);
        Check.due("to -1", x.steps(0, -1), -1);
        x.ring(4);
        Check.due("five points", x.steps(0, 3), 2);
        Check.due("the road is a point", x.steps(4, 1), 2);
        Check.due("5 is none", x.steps(5, 1), -1);
    }

    private static void sign() {
        EnginesAsleep x = new EnginesAsleep();
        for (int i = 4; i <= 60; i += 4) {
            Check.due("sign", x.sign(0x61626364), i);
        }
        Check.due("beyond 60", x.sign(0), -1);
        Check.due("still 60", x.count(11), 60);
        x.end(57);
        Check.due("57 and 4 are too many", x.sign(0), -1);
        x.end(56);
        Check.due("56 and 4", x.sign(0), 60);
        x.end(0);
        x.sign(0x31 << 24 | 0x2b << 16 | 0x6c << 8 | 0xff);
        x.end(3);
        Check.due("the highest byte first", x.rule(), 0);
    }

    private static void end() {
        EnginesAsleep x = new EnginesAsleep();
        Check.due("end(1) of none", x.end(1), false);
        Check.due("end(0) of none", x.end(0), true);
        x.sign(0);
        Check.due("end(5)", x.end(5), false);
        Check.due("end(-1)", x.end(-1), false);
        Check.due("4 stay", x.count(11), 4);
        Check.due("end(4)", x.end(4), true);
        Check.due("end(1)", x.end(1), true);
        Check.due("1 stays", x.count(11), 1);
        Check.due("end(2)", x.end(2), false);
        x.sign(0);
        Check.due("behind the one", x.count(11), 5);
    }
}
