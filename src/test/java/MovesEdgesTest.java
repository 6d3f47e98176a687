import java.util.function.ToIntFunction;

/** Promises 18 to 24 and the MOVE of the Terms, sentence by sentence. */
public final class MovesEdgesTest {
    private static final int[] WILD = {Integer.MIN_VALUE, Integer.MIN_VALUE + 1, -1000, 1000, 1 << 30, Integer.MAX_VALUE};

    public static void main(String[] args) {
        passOfOthers();
        passToItsEnds();
        moveOfOthers();
        moveToAnotherPoint();
        moveOfTheForemost();
        moveAsItMayGo();
        moveWhereItIsTaken();
        moveTakesTheShorterWay();
        moveTurnsAndGoes();
        moveToTheRoad();
        dragOfOthers();
        dragByOneOnTheRoad();
        dragByOneThatMayGo();
        dragOfAnyOther();
        dragTakesTwice();
        dragWhereItIsTaken();
        freeOfOthers();
        freeOfOneThatCannotGo();
        freeWithOneThatCannotGo();
        freeToTheFirstPoint();
        freeAtTheEnds();
        freeTakesGoFourTimes();
        freeAsideToAFront();
        orderOfOthers();
        orderOfOneToFive();
        orderOfEqualOnes();
        orderAsideToTheRoad();
        orderAsTimeGoes();
        orderThatGoesNot();
        clearOfOthers();
        clearOfNone();
        clearOfEqualOnes();
        clearAsTheyBegin();
        clearThatCannotBe();
        underNoSmoke();
        underByOne();
        underNotToTheRoad();
        underByTwo();
        underByOneFromTheRoad();
        underOfTwelve();
        underAsTimeGoes();
        underTwoDoNot();
        onlyAsk();
        Check.end();
    }

    /** Engines of these lengths, class 1, raise 0, lit, in eleven stalls: the road is 11. */
    private static EnginesAsleep lit(int... lengths) {
        EnginesAsleep x = new EnginesAsleep();
        for (int e = 0; e < lengths.length; e++) {
            x.engine(lengths[e], 1, 0, false);
            x.light(e);
        }
        return x;
    }

    /** Two, 10 long each: 0 at the back, 1 at the front of this stall. The table is there. */
    private static EnginesAsleep twoIn(int stall) {
        EnginesAsleep x = lit(10, 10);
        x.move(0, stall);
        x.move(1, stall);
        return x;
    }

    private static void shutAll(EnginesAsleep x, boolean is) {
        for (int s = 0; s < x.count(0); s++) {
            x.shut(s, is);
        }
    }

    private static void hoodAll(EnginesAsleep x, int hoods) {
        for (int s = 0; s < x.count(0); s++) {
            x.stall(s, 30, hoods);
        }
    }

    /** "n minutes (0 .. 600)", "Refused: others." */
    private static void passOfOthers() {
        Busy.refused("pass(-1)", x -> x.pass(-1));
        Busy.refused("pass(601)", x -> x.pass(601));
        for (int v : WILD) {
            Busy.refused("pass(" + v + ")", x -> x.pass(v));
        }
    }

    private static void passToItsEnds() {
        EnginesAsleep x = lit(10);
        Check.due("pass(0)", x.pass(0), 0);
        Check.due("pass(600)", x.pass(600), 600);
        Check.due("pass(600) again", x.pass(600), 1200);
        Check.due("pass(1)", x.pass(1), 1201);
        Check.due("NOW", x.count(2), 1201);
        Check.due("lit as it was", x.of(0, 3), 0);
        Check.due("the table as it was", x.count(3), 11);
    }

    /** "Refused: others, it can't." */
    private static void moveOfOthers() {
        Busy.refused("engine -1", x -> x.move(-1, 0));
        Busy.refused("engine 5 of five", x -> x.move(5, 0));
        Busy.refused("point -1", x -> x.move(4, -1));
        Busy.refused("point 7, the road is 6", x -> x.move(4, 7));
        for (int v : WILD) {
            Busy.refused("engine " + v, x -> x.move(v, 0));
            Busy.refused("point " + v, x -> x.move(4, v));
        }
    }

    /** "to another POINT" */
    private static void moveToAnotherPoint() {
        Busy.refused("from the road to the road", x -> x.move(4, 6));
        Busy.refused("from its front to its stall", x -> x.move(2, 1));
        EnginesAsleep x = lit(10);
        x.move(0, 3);
        Check.due("alone to its stall", x.move(0, 3), -1);
        Check.due("to the next one", x.move(0, 4), 5);
        Check.due("NOW", x.count(2), 8 + 5);
    }

    /** "(on THE ROAD, or the foremost in its STALL: the one at the FRONT, or alone)" */
    private static void moveOfTheForemost() {
        Busy.refused("one with another in front", x -> x.move(0, 0));
        Busy.refused("one with another in front, to the road", x -> x.move(0, 6));
        EnginesAsleep x = twoIn(5);
        Check.due("the back one", x.move(0, 6), -1);
        Check.due("the front one", x.move(1, 6), 5);
        Check.due("alone", x.move(0, 6), 6);
        x.inside(6);
        Check.row("in this order", x, 1, 0);
    }

    /** "It has to be one that MAY GO as the MOVE begins": IN STEAM, just as many minutes do, and not DEAD. */
    private static void moveAsItMayGo() {
        Busy.refused("a cold, dead one", x -> x.move(3, 0));
        EnginesAsleep x = new EnginesAsleep();
        x.engine(10, 1, 5, false);
        Check.due("not lit", x.move(0, 0), -1);
        x.light(0);
        Check.due("just lit", x.move(0, 0), -1);
        x.pass(4);
        Check.due("four minutes of five", x.move(0, 0), -1);
        Check.due("it would be in steam on the way, but not as it begins", x.count(3), 11);
        x.pass(1);
        x.dead(0, true);
        Check.due("five, but dead", x.move(0, 0), -1);
        x.dead(0, false);
        Check.due("five minutes of five", x.move(0, 0), 5);
        x.drop(0);
        Check.due("its fire is dropped", x.move(0, 11), -1);
        x.light(0);
        Check.due("lit anew, the old minutes do not count", x.move(0, 11), -1);
    }

    /** "(a STALL that TAKES it ..)" */
    private static void moveWhereItIsTaken() {
        EnginesAsleep x = lit(10, 20, 21, 5);
        x.move(0, 3);
        x.shut(4, true);
        Check.due("a shut one", x.move(3, 4), -1);
        Check.due("21 behind 10 in 30", x.move(2, 3), -1);
        Check.due("20 behind 10 in 30", x.move(1, 3) > 0, true);
        x.stall(3, 60, 3);
        Check.due("a third", x.move(3, 3), -1);
        x.stall(5, 10, 3);
        x.move(1, 6);
        Check.due("20 in 10", x.move(1, 5), -1);
        Check.rule(x, "n=7");
        Check.due("the rule bars", x.move(3, 8), -1);
        Check.due("the rule lets", x.move(3, 7) > 0, true);
        x.shut(7, true);
        Check.due("out of a shut one", x.move(3, 11) > 0, true);
        Check.due("the rule is not asked of the road", x.of(3, 0), 11);
    }

    /** "THE TABLE goes from where it is to the ENGINE's POINT, .. to the other POINT": the shorter way, over the road too. */
    private static void moveTakesTheShorterWay() {
        EnginesAsleep x = lit(10, 10, 10);
        Check.due("from the road to 0", x.move(0, 0), 0 + 1 + 4);
        Check.due("the table", x.count(3), 0);
        Check.due("from 0 to the road, then to 10", x.move(1, 10), 1 + 1 + 4);
        Check.due("from 10 to the road, half way to 5", x.move(2, 5), 1 + 6 + 4);
        Check.due("from 5 to 0, then over the road to 9", x.move(0, 9), 5 + 3 + 4);
        Check.due("from 9 to 5, then to 0", x.move(2, 0), 4 + 5 + 4);
        Check.due("from 0 over the road to 10, then over it to 0", x.move(1, 0), 2 + 2 + 4);
        Check.due("NOW", x.count(2), 5 + 6 + 11 + 12 + 13 + 8);
        EnginesAsleep y = lit(10);
        y.ring(4);
        Check.due("of five points, to 1", y.move(0, 1), 2 + 4);
        Check.due("from 1 to 3", y.move(0, 3), 2 + 4);
        Check.due("from 3 to 0, over the road", y.move(0, 0), 2 + 4);
    }

    /** "TURN times all STEPS and twice GO", "NOW is so much later" */
    private static void moveTurnsAndGoes() {
        for (int turn = 1; turn <= 9; turn += 4) {
            for (int go = 0; go <= 9; go += 3) {
                EnginesAsleep x = lit(10, 10);
                x.set(0, turn);
                x.set(1, go);
                int first = turn * 3 + 2 * go;
                int second = turn * (3 + 6) + 2 * go;
                Check.due("to 2", x.move(0, 2), first);
                Check.due("NOW", x.count(2), first);
                Check.due("to 5", x.move(1, 5), second);
                Check.due("NOW then", x.count(2), first + second);
            }
        }
    }

    /** "or THE ROAD, where any many stand" */
    private static void moveToTheRoad() {
        EnginesAsleep x = lit(30, 30, 30, 30, 30, 30, 30, 30, 30, 30, 30, 30);
        for (int e = 0; e < 11; e++) {
            Check.due("to its stall", x.move(e, e) > 0, true);
        }
        shutAll(x, true);
        Check.rule(x, "0");
        for (int e = 0; e < 11; e++) {
            Check.due("to the road", x.move(e, 11) > 0, true);
        }
        Check.due("all twelve are there", x.count(7), 0);
    }

    /** "Refused: others, it can't." */
    private static void dragOfOthers() {
        Busy.refused("engine -1", x -> x.drag(-1, 4, 0));
        Busy.refused("engine 5", x -> x.drag(5, 4, 0));
        Busy.refused("by -1", x -> x.drag(1, -1, 0));
        Busy.refused("by 5", x -> x.drag(1, 5, 0));
        Busy.refused("point -1", x -> x.drag(1, 4, -1));
        Busy.refused("point 7", x -> x.drag(1, 4, 7));
        Busy.refused("to where it is, the road", x -> x.drag(1, 4, 6));
        Busy.refused("to where it is, a stall", x -> x.drag(3, 4, 4));
        Busy.refused("one with another in front", x -> x.drag(0, 4, 0));
        for (int v : WILD) {
            Busy.refused("engine " + v, x -> x.drag(v, 4, 0));
            Busy.refused("by " + v, x -> x.drag(1, v, 0));
            Busy.refused("point " + v, x -> x.drag(1, 4, v));
        }
    }

    /** "by another ENGINE that is on THE ROAD" */
    private static void dragByOneOnTheRoad() {
        Busy.refused("by itself", x -> x.drag(4, 4, 0));
        Busy.refused("by one at a front", x -> x.drag(1, 2, 0));
        Busy.refused("by one at a back", x -> x.drag(1, 0, 0));
        EnginesAsleep x = lit(10, 10, 10);
        x.move(1, 3);
        Check.due("by one alone in a stall", x.drag(0, 1, 0), -1);
        x.move(1, 11);
        Check.due("by one that is on the road again", x.drag(0, 1, 0) > 0, true);
        Check.due("it is on the road again then", x.of(1, 0), 11);
    }

    /** ".. and MAY GO" */
    private static void dragByOneThatMayGo() {
        Busy.refused("by one not in steam", x -> x.drag(4, 1, 0));
        EnginesAsleep x = new EnginesAsleep();
        x.engine(10, 1, 0, false);
        x.engine(10, 1, 3, false);
        Check.due("by a cold one", x.drag(0, 1, 2), -1);
        x.light(1);
        x.pass(2);
        Check.due("two minutes of three", x.drag(0, 1, 2), -1);
        x.pass(1);
        x.dead(1, true);
        Check.due("three, but dead", x.drag(0, 1, 2), -1);
        x.dead(1, false);
        Check.due("three minutes of three", x.drag(0, 1, 2), 2 * (3 + 4));
    }

    /** "An ENGINE (whether it MAY GO or not)" */
    private static void dragOfAnyOther() {
        EnginesAsleep x = lit(10, 10, 10, 10);
        x.engine(10, 1, 600, false);
        x.dead(1, true);
        x.drop(2);
        Check.due("one that may go", x.drag(0, 3, 0), 2 * (1 + 4));
        Check.due("a dead one", x.drag(1, 3, 0), 2 * (1 + 1 + 4));
        Check.due("a cold one", x.drag(2, 3, 10), 2 * (1 + 1 + 4));
        x.light(4);
        Check.due("one not in steam", x.drag(4, 3, 10), 2 * (1 + 1 + 4));
        Check.due("a front one to another stall", x.drag(1, 3, 9), 2 * (2 + 3 + 4));
        Check.due("a front one to the road", x.drag(4, 3, 11), 2 * (1 + 1 + 4));
        Check.due("one alone to the road", x.drag(0, 3, 11), 2 * (1 + 1 + 4));
        Check.due("it is there", x.of(0, 0), 11);
    }

    /** "twice as many minutes" */
    private static void dragTakesTwice() {
        for (int turn = 1; turn <= 9; turn += 4) {
            for (int go = 0; go <= 9; go += 3) {
                EnginesAsleep x = lit(10, 10);
                x.set(0, turn);
                x.set(1, go);
                int first = 2 * (turn * 5 + 2 * go);
                int second = 2 * (turn * (0 + 6) + 2 * go);
                Check.due("to 4", x.drag(0, 1, 4), first);
                Check.due("NOW", x.count(2), first);
                Check.due("the table", x.count(3), 4);
                Check.due("over the road to 10", x.drag(0, 1, 10), second);
                Check.due("NOW then", x.count(2), first + second);
                Check.due("the table then", x.count(3), 10);
            }
        }
    }

    private static void dragWhereItIsTaken() {
        EnginesAsleep x = lit(10, 20, 21, 5);
        x.drag(0, 3, 3);
        x.shut(4, true);
        Check.due("a shut one", x.drag(1, 3, 4), -1);
        Check.due("21 behind 10 in 30", x.drag(2, 3, 3), -1);
        Check.due("20 behind 10 in 30", x.drag(1, 3, 3) > 0, true);
        x.stall(3, 60, 3);
        Check.due("a third", x.drag(2, 3, 3), -1);
        Check.rule(x, "l<21");
        Check.due("the rule bars", x.drag(2, 3, 7), -1);
        Check.due("the rule lets", x.drag(1, 3, 7) > 0, true);
    }

    /** "NONE: none such, it is on THE ROAD." */
    private static void freeOfOthers() {
        Busy.refused("free(-1)", x -> x.free(-1));
        Busy.refused("free(5) of five", x -> x.free(5));
        Busy.refused("one on the road", x -> x.free(4));
        for (int v : WILD) {
            Busy.refused("free(" + v + ")", x -> x.free(v));
        }
        EnginesAsleep x = lit(10);
        x.drop(0);
        x.dead(0, true);
        Check.due("a dead, cold one on the road", x.free(0), -1);
    }

    /** "-2: it can't": it has to MAY GO NOW. */
    private static void freeOfOneThatCannotGo() {
        Busy.leaves("a cold, dead one", -2, Busy::made, x -> x.free(3));
        EnginesAsleep x = lit(10);
        x.engine(10, 1, 9, false);
        x.drag(1, 0, 2);
        Check.due("not lit", x.free(1), -2);
        x.light(1);
        x.pass(8);
        Check.due("eight minutes of nine", x.free(1), -2);
        x.pass(1);
        Check.due("nine", x.free(1), 3 + 4);
        x.dead(1, true);
        Check.due("dead", x.free(1), -2);
    }

    /** "both have to MAY GO NOW" */
    private static void freeWithOneThatCannotGo() {
        EnginesAsleep x = lit(10, 10);
        x.engine(10, 1, 9, false);
        x.move(0, 2);
        x.drag(2, 1, 2);
        x.inside(2);
        Check.due("the one in front is not lit", x.free(0), -2);
        Check.row("the row stays", x, 0, 2);
        x.light(2);
        x.pass(8);
        Check.due("eight minutes of nine", x.free(0), -2);
        x.pass(1);
        Check.due("nine", x.free(0), 5 + 1 + 3 + 4);
        x.dead(2, true);
        Check.due("the one in front is dead", x.free(0), -2);
        x.dead(2, false);
        x.dead(0, true);
        Check.due("it is dead itself", x.free(0), -2);
        Check.due("the one in front goes alone", x.free(2), 3 + 4);
        Check.row("NONE without", x, -1);
    }

    /** "with which all takes the fewest (of equal ones the first POINT)" */
    private static void freeToTheFirstPoint() {
        EnginesAsleep x = twoIn(5);
        int[] order = {4, 6, 3, 7, 2, 8, 1, 9, 0, 10};
        for (int i = 0; i < order.length; i++) {
            Check.due("the first points are shut: " + i, x.free(0), 2 * (i / 2 + 1) + 6 + 8);
            Check.row("aside", x, order[i]);
            x.shut(order[i], true);
        }
        Check.due("the road is left", x.free(0), 6 + 6 + 6 + 8);
        Check.row("the road", x, 11);
        x.shut(10, false);
        Check.due("10 is five away over 6 to 9", x.free(0), 5 + 5 + 6 + 8);
        x.shut(0, false);
        x.free(0);
        Check.row("0 is as near", x, 0);
    }

    /** "(or THE ROAD)": beside the first and the last stall it is as near as the next stall, but a later POINT. */
    private static void freeAtTheEnds() {
        EnginesAsleep x = twoIn(0);
        Check.due("from 0", x.free(0), 1 + 1 + 1 + 8);
        Check.row("to 1", x, 1);
        x.shut(1, true);
        Check.due("from 0, 1 is shut", x.free(0), 1 + 1 + 1 + 8);
        Check.row("to the road", x, 11);
        EnginesAsleep y = twoIn(10);
        Check.due("from 10", y.free(0), 1 + 1 + 1 + 8);
        Check.row("to 9", y, 9);
        y.shut(9, true);
        y.free(0);
        Check.row("to the road from 10", y, 11);
        EnginesAsleep z = twoIn(1);
        z.shut(0, true);
        z.shut(2, true);
        z.free(0);
        Check.row("3 and the road are two away", z, 3);
        z.shut(3, true);
        z.free(0);
        Check.row("the road is two away", z, 11);
    }

    /** Two MOVES: "TURN times all STEPS and twice GO" each. */
    private static void freeTakesGoFourTimes() {
        EnginesAsleep x = twoIn(5);
        for (int turn = 1; turn <= 9; turn += 2) {
            for (int go = 0; go <= 9; go++) {
                x.set(0, turn);
                x.set(1, go);
                Check.due("one aside", x.free(0), turn * (1 + 1 + 6) + 4 * go);
                Check.due("none aside", x.free(1), turn * 6 + 2 * go);
            }
        }
    }

    /** "to the STALL ..": one that TAKES it, at its FRONT too. */
    private static void freeAsideToAFront() {
        EnginesAsleep x = lit(10, 10, 20, 21);
        x.move(0, 5);
        x.move(1, 5);
        x.move(2, 4);
        x.move(3, 6);
        Check.due("the front of 4 takes it", x.free(0), 1 + 1 + 1 + 6 + 8);
        Check.row("4", x, 4);
        x.stall(4, 29, 3);
        x.free(0);
        Check.row("4 is too short by 1, 6 too", x, 3);
        x.stall(6, 31, 3);
        x.free(0);
        Check.row("6 is just long enough", x, 6);
        Check.rule(x, "b");
        x.free(0);
        Check.row("no front may be", x, 3);
        Check.rule(x, "!b");
        x.free(0);
        Check.row("fronts alone may be", x, 6);
        x.stall(3, 10, 3);
        Check.rule(x, "n=3");
        x.free(0);
        Check.row("just as long as 3", x, 3);
        Check.rule(x, "0");
        x.free(0);
        Check.row("the rule is not asked of the road", x, 11);
    }

    /** "(1 to 5 of them, in STALLS)", "NONE: others" */
    private static void orderOfOthers() {
        Busy.refused("none told", x -> x.order(0));
        Busy.refused("one on the road", x -> x.order(16));
        Busy.refused("one of two on the road", x -> x.order(1 | 16));
        Busy.refused("none such", x -> x.order(32));
        Busy.refused("one and none such", x -> x.order(1 | 1 << 12));
        Busy.refused("one and the highest bit", x -> x.order(1 | Integer.MIN_VALUE));
        Busy.refused("all bits", x -> x.order(-1));
        EnginesAsleep x = lit(5, 5, 5, 5, 5, 5, 5);
        for (int e = 0; e < 6; e++) {
            x.move(e, e);
        }
        Check.due("six", x.order(63), -1);
        Check.due("five of six", x.order(31) > 0, true);
        Check.due("five, one of them on the road", x.order(64 | 15), -1);
    }

    /** "all on THE ROAD in the fewest minutes, one after the other" */
    private static void orderOfOneToFive() {
        EnginesAsleep x = lit(5, 5, 5, 5, 5);
        int[] stalls = {8, 1, 5, 3, 10};
        for (int e = 0; e < 5; e++) {
            x.move(e, stalls[e]);
        }
        // The table is at 10; each goes to the road from there, or from the road: out and back.
        Check.due("one", x.order(1), 2 + 3 + 4);
        Check.row("one", x, 0);
        Check.due("two: 0 first", x.order(3), (2 + 3 + 4) + (2 + 2 + 4));
        Check.row("two: 0 first", x, 0, 1);
        Check.due("three: 0 first", x.order(11), (2 + 3 + 4) + (2 + 2 + 4) + (4 + 4 + 4));
        Check.row("three: 0 first", x, 0, 1, 3);
        Check.due("five: 0, 2 or 4 first", x.order(31), (2 + 3 + 4) + (2 + 2 + 4) + (6 + 6 + 4) + (4 + 4 + 4) + (1 + 1 + 4));
        Check.row("five: the least row", x, 0, 1, 2, 3, 4);
        x.move(4, 11);
        x.move(4, 5);
        x.shut(4, true);
        x.shut(6, true);
        // 4 stands in front of 2, the table at 5. 4 first: 6 + 4, then 2 from the road: 6 + 6 + 4.
        Check.due("the front one first", x.order(20), 10 + 16);
        Check.row("the front one first", x, 4, 2);
        // 2 alone: 4 goes aside to 3, in front of 3: 2 + 4, then 2 + 6 + 4.
        Check.due("the back one alone", x.order(4), 6 + 12);
        Check.row("the back one alone", x, 2);
    }

    /** "the ROW: the order: of equal ones the least row" */
    private static void orderOfEqualOnes() {
        EnginesAsleep x = lit(10, 10, 10, 10);
        x.move(3, 0);
        x.move(2, 10);
        x.move(1, 1);
        x.move(1, 11);
        // The table is at the road: all orders take as many.
        Check.due("two", x.order(12), 6 + 6);
        Check.row("two", x, 2, 3);
        x.move(1, 2);
        x.move(0, 9);
        x.move(2, 11);
        // 0 in 9, 1 in 2, 3 in 0, the table at the road again.
        Check.due("three", x.order(11), (2 + 2 + 4) + (3 + 3 + 4) + (1 + 1 + 4));
        Check.row("three", x, 0, 1, 3);
    }

    /** "(one that went aside to THE ROAD by then takes none)" */
    private static void orderAsideToTheRoad() {
        EnginesAsleep x = twoIn(5);
        shutAll(x, true);
        x.engine(10, 1, 0, false);
        x.light(2);
        x.shut(0, false);
        x.move(2, 0);
        x.move(2, 11);
        x.shut(0, true);
        // 1 out and 0 out, or 1 aside to the road and 0 out: 16 each.
        Check.due("equal: the back one first", x.order(3), 16 + 16);
        Check.row("equal: the back one first", x, 0, 1);
        Check.due("the back one alone", x.order(1), 32);
        Check.due("the front one alone", x.order(2), 16);
    }

    /** "each as free() says from where all stand then": those who MAY GO then, not NOW alone. */
    private static void orderAsTimeGoes() {
        EnginesAsleep x = twoIn(5);
        x.engine(10, 1, 0, false);
        x.engine(10, 1, 100, false);
        x.light(2);
        x.drag(3, 2, 0);
        x.move(2, 0);
        x.move(2, 11);
        shutAll(x, true);
        x.light(3);
        x.pass(67);
        // 3 is in steam in 33 minutes; the others are out in 32, and one that is on the road takes none.
        Check.due("a minute too early", x.order(11), -2);
        x.pass(1);
        Check.due("just in steam then", x.order(11), 32 + 6);
        Check.row("just in steam then", x, 0, 1, 3);
        x.pass(16);
        Check.due("in steam behind one of them", x.order(10), 16 + 6);
        Check.row("in steam behind one of them", x, 1, 3);
        Check.due("alone it is not", x.order(8), -2);
    }

    /** "-2: no order goes" */
    private static void orderThatGoesNot() {
        Busy.leaves("a cold, dead one", -2, Busy::made, x -> x.order(8));
        Busy.leaves("it and others", -2, Busy::made, x -> x.order(8 | 1 | 4));
        EnginesAsleep x = twoIn(5);
        x.inside(5);
        x.dead(0, true);
        Check.due("the back one is dead", x.order(3), -2);
        Check.due("the front one alone", x.order(2), 10);
        x.inside(5);
        x.dead(0, false);
        x.dead(1, true);
        Check.due("the front one is dead", x.order(1), -2);
        Check.row("the row stays", x, 0, 1);
        x.dead(1, false);
        x.drop(1);
        Check.due("the front one is cold", x.order(3), -2);
    }

    /** "NONE: none such." */
    private static void clearOfOthers() {
        Busy.refused("clear(-1)", x -> x.clear(-1));
        Busy.refused("clear(6), the road", x -> x.clear(6));
        Busy.refused("clear(7)", x -> x.clear(7));
        for (int v : WILD) {
            Busy.refused("clear(" + v + ")", x -> x.clear(v));
        }
    }

    /** "(0 and an empty ROW, if none is in it)" */
    private static void clearOfNone() {
        EnginesAsleep x = twoIn(5);
        for (int s = 0; s < 11; s++) {
            if (s != 5) {
                x.inside(5);
                Check.due("none in it", x.clear(s), 0);
                Check.row("none in it", x);
            }
        }
        x.inside(5);
        x.shut(4, true);
        Check.due("none in a shut one", x.clear(4), 0);
        Check.row("none in a shut one", x);
        x.inside(5);
        Check.due("none at all", new EnginesAsleep().clear(10), 0);
    }

    /** "the fewest minutes; the ROW: where each goes: of equal ones the least row" */
    private static void clearOfEqualOnes() {
        EnginesAsleep x = lit(10, 10);
        x.move(0, 1);
        Check.due("one", x.clear(1), 1 + 4);
        Check.row("one to 0", x, 0);
        x.move(1, 1);
        Check.due("two", x.clear(1), 5 + 6);
        Check.row("two to 0", x, 0, 0);
        x.stall(0, 19, 3);
        Check.due("0 is too short for two", x.clear(1), 5 + 6);
        Check.row("0 is too short for two", x, 0, 2);
        x.shut(0, true);
        Check.due("0 is shut", x.clear(1), 5 + 6);
        Check.row("0 is shut", x, 2, 2);
        x.shut(2, true);
        Check.due("3 and the road are as near", x.clear(1), 6 + 8);
        Check.row("3 and the road are as near", x, 3, 3);
        x.stall(3, 10, 3);
        Check.row("before", x, 3, 3);
        x.clear(1);
        Check.row("one to 3, one to the road", x, 3, 11);
        x.stall(3, 30, 3);
        Check.rule(x, "b");
        x.clear(1);
        Check.row("backs alone", x, 3, 11);
        x.shut(1, true);
        x.shut(3, true);
        Check.due("a shut one is cleared to the road", x.clear(1), 6 + 8);
        Check.row("a shut one is cleared to the road", x, 11, 11);
        x.set(0, 3);
        x.set(1, 7);
        Check.due("TURN 3, GO 7", x.clear(1), 3 * (2 + 2 + 2) + 4 * 7);
    }

    /** "(all have to MAY GO as they begin)" */
    private static void clearAsTheyBegin() {
        EnginesAsleep x = lit(10);
        x.engine(10, 1, 20, false);
        x.drag(1, 0, 1);
        x.move(0, 1);
        x.light(1);
        x.pass(14);
        // 1 is in steam in 6 minutes; the nearest way aside takes 5.
        Check.due("a farther one first", x.clear(1), 6 + 7);
        Check.row("a farther one first", x, 3, 0);
        x.pass(1);
        Check.due("just in steam", x.clear(1), 5 + 6);
        Check.row("just in steam", x, 0, 0);
    }

    /** "-2: it can't be" */
    private static void clearThatCannotBe() {
        Busy.leaves("a cold, dead one", -2, Busy::made, x -> x.clear(4));
        EnginesAsleep x = twoIn(5);
        x.inside(5);
        x.dead(0, true);
        Check.due("the back one is dead", x.clear(5), -2);
        x.dead(0, false);
        x.dead(1, true);
        Check.due("the front one is dead", x.clear(5), -2);
        x.dead(1, false);
        x.drop(0);
        Check.due("the back one is cold", x.clear(5), -2);
        x.light(0);
        x.drop(1);
        Check.due("the front one is cold", x.clear(5), -2);
        Check.row("the row stays", x, 0, 1);
        EnginesAsleep y = lit(10);
        y.move(0, 5);
        y.dead(0, true);
        Check.due("one alone is dead", y.clear(5), -2);
        y.dead(0, false);
        y.drop(0);
        Check.due("one alone is cold", y.clear(5), -2);
    }

    /** "The fewest MOVES (0 to 2)": none, if none smokes. */
    private static void underNoSmoke() {
        EnginesAsleep x = twoIn(5);
        x.inside(5);
        Check.due("all under hoods", x.under(), 0);
        Check.row("no numbers", x);
        hoodAll(x, 0);
        x.drop(0);
        x.drop(1);
        x.inside(5);
        Check.due("all cold", x.under(), 0);
        Check.row("no numbers again", x);
        Check.due("no engines", new EnginesAsleep().under(), 0);
    }

    /** "those that take the fewest minutes, then the least row" */
    private static void underByOne() {
        EnginesAsleep x = lit(10);
        x.move(0, 1);
        x.stall(1, 30, 1);
        Check.due("one", x.under(), 1);
        Check.row("0 and 2 are as near", x, 0, 0);
        x.stall(0, 30, 1);
        x.under();
        Check.row("no hood over the back of 0", x, 0, 2);
        x.stall(2, 9 + 1, 2);
        x.under();
        Check.row("a hood over the back of 2, just as long", x, 0, 2);
        x.shut(2, true);
        x.under();
        Check.row("2 is shut: 3", x, 0, 3);
        x.stall(3, 30, 0);
        x.under();
        Check.row("10 is three away, as 4 is", x, 0, 4);
        x.shut(4, true);
        x.under();
        Check.row("10", x, 0, 10);
    }

    /** "MOVES .. to STALLS": none to THE ROAD, though there it would not count. */
    private static void underNotToTheRoad() {
        EnginesAsleep x = lit(10);
        x.move(0, 1);
        x.inside(1);
        hoodAll(x, 0);
        Check.due("no hood anywhere", x.under(), -2);
        Check.row("the row stays", x, 0);
        hoodAll(x, 1);
        Check.due("no hood over a back", x.under(), -2);
        hoodAll(x, 3);
        Check.due("all have hoods", x.under(), 0);
        shutAll(x, true);
        x.stall(1, 30, 0);
        Check.due("all are shut", x.under(), -2);
    }

    private static void underByTwo() {
        EnginesAsleep x = twoIn(1);
        x.stall(1, 30, 0);
        Check.due("both smoke", x.under(), 2);
        // 1 to 0: 5, 0 to 0: 6; to 2 they are as many.
        Check.row("both to 0", x, 1, 0, 0, 0);
        x.stall(0, 30, 2);
        x.under();
        Check.row("no hood over the front of 0", x, 1, 0, 0, 2);
        x.stall(1, 30, 1);
        Check.due("the back one smokes: the front one goes aside", x.under(), 2);
        Check.row("the front one goes aside", x, 1, 0, 0, 2);
        x.stall(1, 30, 2);
        Check.due("the front one smokes", x.under(), 1);
        Check.row("the front one smokes", x, 1, 0);
    }

    /** The first MOVE may be one's that does not smoke, to make a place for the one that does. */
    private static void underByOneFromTheRoad() {
        EnginesAsleep x = lit(10);
        x.engine(10, 5, 0, false);
        x.light(1);
        x.move(0, 1);
        x.stall(1, 30, 0);
        Check.rule(x, "!b|c=5");
        Check.due("it may stand at fronts alone: 1 goes ahead of it", x.under(), 2);
        // 1 from the road to 0: 2 + 1 + 4, then 0 from 1 to 0: 1 + 1 + 4; by 2: 2 + 3 + 4 and 1 + 1 + 4.
        Check.row("1 to 0, then 0 in front of it", x, 1, 0, 0, 0);
        x.shut(0, true);
        x.under();
        // By 2: 2 + 3 + 4 and 1 + 1 + 4; by 10: 2 + 1 + 4 and 3 + 3 + 4.
        Check.row("1 to 2", x, 1, 2, 0, 2);
        x.dead(1, true);
        Check.due("1 is dead", x.under(), -2);
    }

    /** Of twelve, one or two smoke. */
    private static void underOfTwelve() {
        EnginesAsleep x = lit(10, 10, 10, 10, 10, 10, 10, 10, 10, 10, 10, 10);
        x.move(11, 5);
        x.move(10, 5);
        x.stall(5, 30, 1);
        Check.due("the back one smokes", x.under(), 2);
        Check.row("the back one smokes", x, 10, 4, 11, 4);
        x.stall(5, 30, 2);
        Check.due("the front one smokes", x.under(), 1);
        Check.row("the front one smokes", x, 10, 4);
        x.stall(5, 30, 0);
        for (int s = 0; s < 11; s++) {
            x.shut(s, s != 9);
        }
        Check.due("both smoke", x.under(), 2);
        Check.row("both smoke", x, 10, 9, 11, 9);
        x.stall(9, 10, 3);
        Check.due("there is room for one", x.under(), -2);
    }

    /** The second MOVE begins as the first is done: who is in steam then may go. */
    private static void underAsTimeGoes() {
        EnginesAsleep x = lit(10);
        x.engine(10, 1, 20, false);
        x.engine(10, 1, 0, false);
        x.light(2);
        x.move(0, 2);
        x.drag(1, 2, 4);
        x.light(1);
        x.stall(2, 30, 0);
        x.stall(4, 30, 0);
        Check.due("now", x.count(2), 7 + 24);
        // 0 to 3: 2 + 1 + 4, then 1 to 3: 1 + 1 + 4. 1 is in steam at 51.
        x.pass(13);
        Check.due("0 and 1", x.under(), 2);
        Check.row("in steam as 0 is under", x, 0, 3, 1, 3);
        x.keep(0);
        x.pass(1);
        Check.due("0 and 1, later", x.under(), 2);
        Check.row("later too", x, 0, 3, 1, 3);
        EnginesAsleep y = lit(10);
        y.engine(10, 1, 20, false);
        y.engine(10, 1, 0, false);
        y.light(2);
        y.move(0, 2);
        y.drag(1, 2, 4);
        y.light(1);
        y.stall(2, 30, 0);
        y.stall(4, 30, 0);
        y.pass(12);
        // A minute earlier: 0 to 5 takes 2 + 3 + 4, then 1 to 3 or 5: 1 + 1 + 4.
        Check.due("0 and 1, a minute too early", y.under(), 2);
        Check.row("0 goes farther", y, 0, 5, 1, 3);
    }

    /** "-2: two do not." */
    private static void underTwoDoNot() {
        EnginesAsleep x = lit(10, 10, 10);
        x.move(0, 1);
        x.move(1, 3);
        hoodAll(x, 0);
        x.stall(7, 30, 3);
        x.stall(8, 10, 3);
        x.inside(1);
        Check.due("both to 7", x.under(), 2);
        x.inside(1);
        x.shut(7, true);
        Check.due("7 is shut, 8 has room for one", x.under(), -2);
        Check.row("the row stays", x, 0);
        x.stall(9, 10, 3);
        Check.due("8 and 9", x.under(), 2);
        x.stall(9, 10, 1);
        Check.due("no hood over the back of 9", x.under(), -2);
        x.stall(9, 10, 3);
        x.dead(0, true);
        Check.due("one is dead", x.under(), -2);
        x.dead(0, false);
        x.move(2, 5);
        Check.due("three smoke", x.under(), -2);
        x.drop(2);
        Check.due("two of three", x.under(), 2);
        x.engine(10, 1, 10, false);
        x.drop(0);
        x.drop(1);
        x.light(2);
        x.move(2, 11);
        x.drag(3, 2, 4);
        x.light(3);
        Check.due("one that is not in steam smokes, another one takes its time first", x.under(), 2);
        // 2 to 9: 5 + 2 + 4, then 3 from 4 to 8: 5 + 4 + 4; to 8 and to 9 they take one more.
        Check.row("another one takes its time first", x, 2, 9, 3, 8);
        x.dead(2, true);
        Check.due("one that is not in steam smokes", x.under(), -2);
        x.pass(9);
        Check.due("a minute too early", x.under(), -2);
        x.pass(1);
        Check.due("it is in steam", x.under(), 1);
    }

    /** "nothing changes" */
    private static void onlyAsk() {
        ToIntFunction<EnginesAsleep> each = x -> {
            int sum = 0;
            for (int e = 0; e < 5; e++) {
                sum += x.free(e);
            }
            return sum;
        };
        Busy.onlyAsks("free", each);
        Busy.onlyAsks("order", x -> x.order(5));
        Busy.onlyAsks("order that goes not", x -> x.order(13));
        Busy.onlyAsks("clear(1)", x -> x.clear(1));
        Busy.onlyAsks("clear(4)", x -> x.clear(4));
        Busy.onlyAsks("clear(0)", x -> x.clear(0));
        Busy.onlyAsks("under", EnginesAsleep::under);
    }
}
