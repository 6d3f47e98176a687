/** Promises 25 to 29, sentence by sentence: who comes, who leaves, where they are put. */
public final class BerthsEdgesTest {
    private static final int[] WILD = {Integer.MIN_VALUE, Integer.MIN_VALUE + 1, -1000, 1000, 1 << 30, Integer.MAX_VALUE};

    public static void main(String[] args) {
        comesOfOthers();
        comesFromTheRoad();
        comesAgain();
        comesAtMostSix();
        leavesOfOthers();
        leavesOnce();
        nobodyIsTold();
        putOfNone();
        putOfThoseThatDoNotLeave();
        putOfOneThatIsGone();
        putToEmptyStalls();
        putToOpenStalls();
        putJustAsLong();
        putTwoInOne();
        putWithTheLaterInFront();
        putBehindOneAlone();
        putAsTheRuleSays();
        putCosts();
        putOfEqualOnes();
        putThatCannotBe();
        roomOfOthers();
        roomOfTwelve();
        roomNoTwoToOne();
        roomTakesNow();
        roomOfEqualOnes();
        roomOfNone();
        onlyAsk();
        Check.end();
    }

    private static EnginesAsleep of(int... lengths) {
        EnginesAsleep x = new EnginesAsleep();
        for (int length : lengths) {
            x.engine(length, 1, 0, false);
        }
        return x;
    }

    private static void come(EnginesAsleep x, int... engines) {
        for (int e : engines) {
            x.comes(e);
        }
    }

    private static void leave(EnginesAsleep x, int... engines) {
        for (int e : engines) {
            x.leaves(e);
        }
    }

    /** These come as 0, 1, .. and leave the other way round. */
    private static EnginesAsleep lastInFirstOut(int... lengths) {
        EnginesAsleep x = of(lengths);
        for (int e = 0; e < lengths.length; e++) {
            x.comes(e);
        }
        for (int e = lengths.length - 1; e >= 0; e--) {
            x.leaves(e);
        }
        return x;
    }

    private static void shutAllBut(EnginesAsleep x, int... open) {
        for (int s = 0; s < x.count(0); s++) {
            x.shut(s, true);
        }
        for (int s : open) {
            x.shut(s, false);
        }
    }

    /** "Refused: others." */
    private static void comesOfOthers() {
        Busy.refused("comes(-1)", x -> x.comes(-1));
        Busy.refused("comes(5) of five", x -> x.comes(5));
        for (int v : WILD) {
            Busy.refused("comes(" + v + ")", x -> x.comes(v));
        }
    }

    /** "An ENGINE that is on THE ROAD" */
    private static void comesFromTheRoad() {
        Busy.refused("one at a back", x -> x.comes(0));
        Busy.refused("one at a front", x -> x.comes(2));
        Busy.refused("one alone in a stall", x -> x.comes(3));
        EnginesAsleep x = of(10, 10);
        x.dead(0, true);
        Check.due("a cold, dead one", x.comes(0), 1);
        x.light(1);
        x.move(1, 0);
        Check.due("one in a stall", x.comes(1), -1);
        x.move(1, 11);
        Check.due("on the road again", x.comes(1), 2);
    }

    /** "(.. again: refused)" */
    private static void comesAgain() {
        Busy.refused("the first told", x -> x.comes(4));
        Busy.refused("the last told, who leaves too", x -> x.comes(1));
        EnginesAsleep x = of(10);
        x.light(0);
        x.comes(0);
        x.move(0, 3);
        x.move(0, 11);
        Check.due("again, though it was away", x.comes(0), -1);
        x.nobody();
        Check.due("behind nobody()", x.comes(0), 1);
    }

    /** "(at most 6 of them ..)" */
    private static void comesAtMostSix() {
        EnginesAsleep x = of(5, 5, 5, 5, 5, 5, 5, 5);
        for (int e = 0; e < 6; e++) {
            Check.due("comes", x.comes(7 - e), e + 1);
        }
        Check.due("a seventh", x.comes(0), -1);
        Check.due("six come", x.count(5), 6);
        leave(x, 7, 6);
        Check.due("a seventh, as some leave", x.comes(0), -1);
        Check.due("nobody()", x.nobody(), 6);
        Check.due("behind nobody()", x.comes(0), 1);
    }

    /** "Refused: others, none of these" */
    private static void leavesOfOthers() {
        Busy.refused("leaves(-1)", x -> x.leaves(-1));
        Busy.refused("leaves(5) of five", x -> x.leaves(5));
        Busy.refused("one on the road that does not come", Busy::allOut, x -> x.leaves(2));
        Busy.refused("one in a stall", x -> x.leaves(0));
        for (int v : WILD) {
            Busy.refused("leaves(" + v + ")", x -> x.leaves(v));
        }
        Check.due("none comes", of(10).leaves(0), -1);
    }

    /** "Refused: .. told already." */
    private static void leavesOnce() {
        Busy.refused("told already", x -> x.leaves(1));
        EnginesAsleep x = of(5, 5, 5, 5, 5, 5);
        come(x, 3, 1, 5, 0, 2, 4);
        for (int e = 0; e < 6; e++) {
            Check.due("leaves", x.leaves(e), e + 1);
            Check.due("again", x.leaves(e), -1);
            Check.due("so many leave", x.count(6), e + 1);
        }
        EnginesAsleep z = of(5, 5, 5, 5, 5, 5, 5, 5, 5, 5, 5, 5);
        come(z, 11, 0);
        Check.due("the last of twelve", z.leaves(11), 1);
        Check.due("the last of twelve again", z.leaves(11), -1);
        Check.due("the first of twelve", z.leaves(0), 2);
        Check.due("the last comes first and leaves first", z.put(), 8);
        Check.row("the last comes first and leaves first", z, 0, 10);
        EnginesAsleep y = of(10);
        y.comes(0);
        y.light(0);
        y.move(0, 3);
        Check.due("one that comes and is in a stall by now", y.leaves(0), 1);
    }

    /** "None is told to come or leave then: how many came." */
    private static void nobodyIsTold() {
        EnginesAsleep x = of(5, 5, 5, 5, 5, 5);
        Check.due("none", x.nobody(), 0);
        come(x, 0, 1, 2, 3, 4, 5);
        leave(x, 2, 4);
        Check.due("six", x.nobody(), 6);
        Check.due("none comes", x.count(5), 0);
        Check.due("none leaves", x.count(6), 0);
        Check.due("none leaves any more", x.leaves(2), -1);
        Check.due("none again", x.nobody(), 0);
        come(x, 1, 0);
        Check.due("a new first to leave", x.leaves(0), 1);
    }

    /** "NONE: none comes" */
    private static void putOfNone() {
        Check.due("none comes", of(10).put(), -1);
        EnginesAsleep x = of(10);
        x.light(0);
        x.move(0, 3);
        x.inside(3);
        Check.due("none comes, one is in a stall", x.put(), -1);
        Check.row("the row stays", x, 0);
        x.move(0, 11);
        come(x, 0);
        leave(x, 0);
        Check.due("one comes", x.put(), 4);
        x.nobody();
        Check.due("none comes again", x.put(), -1);
        Check.row("the row stays again", x, 0);
    }

    /** "NONE: .. not all leave." */
    private static void putOfThoseThatDoNotLeave() {
        Busy.refused("one of two leaves", EnginesAsleep::put);
        EnginesAsleep x = of(10, 10, 10);
        come(x, 0, 1, 2);
        Check.due("none leaves", x.put(), -1);
        leave(x, 2, 1);
        Check.due("two of three leave", x.put(), -1);
        x.light(0);
        x.move(0, 3);
        Check.due("two of three leave, one is on the road no more", x.put(), -1);
        x.move(0, 11);
        leave(x, 0);
        Check.due("all leave", x.put(), 4 * (1 + 1 + 1));
        Check.row("all leave", x, 0, 0, 10);
    }

    /** "-2: .. one that comes is on THE ROAD no more" */
    private static void putOfOneThatIsGone() {
        EnginesAsleep x = lastInFirstOut(10, 10);
        x.put();
        x.light(1);
        x.move(1, 5);
        Check.due("the second is in a stall", x.put(), -2);
        Check.row("the row stays", x, 0, 0);
        x.move(1, 11);
        Check.due("it is back", x.put(), 8);
        x.light(0);
        x.move(0, 5);
        Check.due("the first is in a stall", x.put(), -2);
        x.move(0, 11);
        Check.due("it is back too", x.put(), 8);
    }

    /** "to STALLS that are empty now" */
    private static void putToEmptyStalls() {
        EnginesAsleep x = of(5, 5, 5, 5);
        for (int e = 2; e < 4; e++) {
            x.light(e);
        }
        come(x, 0, 1);
        leave(x, 1, 0);
        x.move(2, 0);
        x.move(3, 10);
        Check.due("0 and 10 are not empty, though they have room", x.put(), 4 * (2 + 2));
        Check.row("1", x, 1, 1);
        x.move(2, 11);
        Check.due("0 is empty", x.put(), 8);
        Check.row("0", x, 0, 0);
    }

    /** "(each that is not SHUT)" */
    private static void putToOpenStalls() {
        EnginesAsleep x = lastInFirstOut(10);
        shutAllBut(x, 5);
        Check.due("5 alone is open", x.put(), 4 * 6);
        Check.row("5", x, 5);
        shutAllBut(x);
        Check.due("all are shut", x.put(), -2);
        Check.row("the row stays", x, 5);
        x.shut(10, false);
        Check.due("the last is open", x.put(), 4);
        Check.row("10", x, 10);
    }

    /** "both are not longer than the STALL"; one alone is not either. */
    private static void putJustAsLong() {
        EnginesAsleep x = lastInFirstOut(10, 15);
        shutAllBut(x, 0, 10);
        x.stall(0, 25, 3);
        Check.due("25 in 25", x.put(), 8);
        Check.row("25 in 25", x, 0, 0);
        x.stall(0, 24, 3);
        x.stall(10, 24, 3);
        Check.due("25 in 24", x.put(), 8);
        Check.row("25 in 24", x, 0, 10);
        x.stall(10, 14, 3);
        x.put();
        Check.row("15 in 14", x, 10, 0);
        x.stall(10, 15, 3);
        x.put();
        Check.row("15 in 15", x, 0, 10);
        x.stall(0, 10, 3);
        Check.due("10 in 10", x.put(), 8);
        x.stall(10, 14, 3);
        Check.due("15 in 14 and 10", x.put(), -2);
        EnginesAsleep z = of(5, 30, 20, 6);
        come(z, 1, 2);
        leave(z, 2, 1);
        shutAllBut(z, 4);
        z.stall(4, 50, 3);
        Check.due("30 and 20 in 50", z.put(), 2 * 4 * 5);
        z.stall(4, 49, 3);
        Check.due("30 and 20 in 49", z.put(), -2);
        z.nobody();
        come(z, 2, 3);
        leave(z, 3, 2);
        z.stall(4, 26, 3);
        Check.due("20 and 6 in 26", z.put(), 2 * 4 * 5);
        z.stall(4, 25, 3);
        Check.due("20 and 6 in 25", z.put(), -2);
        EnginesAsleep y = lastInFirstOut(30, 30);
        shutAllBut(y, 4);
        y.stall(4, 59, 3);
        Check.due("60 in 59", y.put(), -2);
        y.stall(4, 60, 3);
        Check.due("60 in 60", y.put(), 2 * 4 * 5);
    }

    /** "two in one STALL: the later one .. has to leave ahead of the other" */
    private static void putTwoInOne() {
        EnginesAsleep x = of(10, 10);
        come(x, 0, 1);
        leave(x, 1, 0);
        shutAllBut(x, 7);
        Check.due("the later leaves first", x.put(), 2 * 4 * 4);
        Check.row("the later leaves first", x, 7, 7);
        x.nobody();
        come(x, 0, 1);
        leave(x, 0, 1);
        Check.due("the first leaves first", x.put(), -2);
        x.nobody();
        come(x, 1, 0);
        leave(x, 0, 1);
        Check.due("the first is the later", x.put(), 32);
        EnginesAsleep y = lastInFirstOut(5, 5, 5);
        shutAllBut(y, 0);
        y.stall(0, 60, 3);
        Check.due("three in one", y.put(), -2);
        y.shut(1, false);
        Check.due("two in one, one in another", y.put(), 4 * (1 + 1 + 2));
        Check.row("two in one, one in another", y, 0, 0, 1);
    }

    /** "the later one stands in FRONT": THE RULE is asked for it there, and for the other one at the BACK. */
    private static void putWithTheLaterInFront() {
        EnginesAsleep x = lastInFirstOut(10, 15);
        shutAllBut(x, 0);
        Check.rule(x, "l=10&b|l=15&!b");
        Check.due("10 at backs, 15 at fronts", x.put(), 8);
        Check.rule(x, "l=15&b|l=10&!b");
        Check.due("15 at backs, 10 at fronts", x.put(), -2);
        Check.rule(x, "b");
        Check.due("backs alone", x.put(), -2);
        x.shut(10, false);
        Check.due("backs alone, two stalls", x.put(), 8);
        Check.row("backs alone, two stalls", x, 0, 10);
        Check.rule(x, "!b");
        Check.due("fronts alone", x.put(), -2);
        Check.rule(x, "h");
        x.stall(0, 30, 2);
        x.stall(10, 30, 1);
        Check.due("one hood over a back", x.put(), -2);
        x.stall(0, 30, 3);
        Check.due("both hoods of 0", x.put(), 8);
        Check.row("both hoods of 0", x, 0, 0);
        x.stall(0, 30, 1);
        x.stall(10, 30, 3);
        x.put();
        Check.row("both hoods of 10", x, 10, 10);
    }

    /** One that alone may stand at a BACK stands behind one other one, not behind two. */
    private static void putBehindOneAlone() {
        EnginesAsleep x = lastInFirstOut(10, 15, 15);
        Check.rule(x, "l=10&b|l=15&!b");
        Check.due("two have none behind them but the same", x.put(), -2);
        EnginesAsleep u = lastInFirstOut(10, 15, 15, 10);
        Check.rule(u, "l=10&b|l=15&!b");
        Check.due("another one comes too late for that", u.put(), -2);
        EnginesAsleep y = lastInFirstOut(10, 15, 10, 15);
        Check.rule(y, "l=10&b|l=15&!b");
        Check.due("one each", y.put(), 4 * 4);
        Check.row("one each", y, 0, 0, 10, 10);
        EnginesAsleep z = lastInFirstOut(15, 10, 15);
        Check.rule(z, "l=10&b|l=15&!b");
        Check.due("the first has none behind it", z.put(), -2);
    }

    /** "THE RULE is asked for each place (as NOW)" */
    private static void putAsTheRuleSays() {
        EnginesAsleep x = of(10, 10);
        x.engine(10, 1, 20, false);
        come(x, 0, 2);
        leave(x, 2, 0);
        Check.rule(x, "s");
        Check.due("both are cold", x.put(), -2);
        x.light(0);
        x.light(2);
        x.pass(19);
        Check.due("one is a minute too early", x.put(), -2);
        x.pass(1);
        Check.due("both are in steam", x.put(), 8);
        Check.rule(x, "n=3|n=4");
        Check.due("3 and 4", x.put(), 4 * (4 + 4));
        Check.row("3 and 4", x, 3, 3);
        Check.rule(x, "n=3&b|n=10&b");
        Check.due("one each", x.put(), 4 * (4 + 1));
        Check.row("one each", x, 3, 10);
        x.dead(0, true);
        Check.rule(x, "d=0");
        Check.due("one is dead", x.put(), -2);
        Check.rule(x, "0");
        Check.due("none may be", x.put(), -2);
    }

    /** "Each costs four times the STEPS from THE ROAD to its STALL": TURN, GO and THE TABLE are no matter. */
    private static void putCosts() {
        EnginesAsleep x = of(10, 10);
        come(x, 0);
        leave(x, 0);
        x.light(1);
        for (int s = 0; s < 11; s++) {
            shutAllBut(x, s);
            Check.due("to " + s, x.put(), 4 * Math.min(s + 1, 11 - s));
            Check.row("to " + s, x, s);
        }
        x.set(0, 9);
        x.set(1, 9);
        shutAllBut(x, 5, 3);
        x.move(1, 3);
        Check.due("to 5", x.put(), 24);
        x.ring(11);
        x.move(1, 11);
        x.ring(23);
        shutAllBut(x, 11);
        Check.due("to 11 of 23", x.put(), 4 * 12);
    }

    /** "the least sum; .. of each, as they come, its STALL: of equal ones the least row" */
    private static void putOfEqualOnes() {
        EnginesAsleep x = of(10, 10, 10, 10, 10, 10);
        come(x, 5, 4, 3, 2, 1, 0);
        leave(x, 0, 1, 2, 3, 4, 5);
        x.ring(4);
        Check.due("two each in four", x.put(), 4 * (2 + 2 + 4));
        Check.row("two each in four: 1 or 2, the least row", x, 0, 0, 1, 1, 3, 3);
        x.nobody();
        come(x, 5, 4, 3, 2, 1, 0);
        leave(x, 5, 4, 3, 2, 1, 0);
        Check.due("one each in four", x.put(), -2);
        x.ring(5);
        Check.due("one each in five", x.put(), -2);
        x.ring(6);
        Check.due("one each in six", x.put(), 4 * (1 + 2 + 3 + 3 + 2 + 1));
        Check.row("one each in six", x, 0, 1, 2, 3, 4, 5);
        x.ring(23);
        Check.due("one each in 23", x.put(), 4 * (1 + 2 + 3 + 3 + 2 + 1));
        Check.row("one each in 23", x, 0, 1, 2, 20, 21, 22);
        x.nobody();
        come(x, 0, 1, 2, 3);
        leave(x, 2, 0, 3, 1);
        // 1 stands behind 2 or 3, 0 behind 2.
        Check.due("two pairs", x.put(), 4 * (1 + 1 + 1 + 1));
        Check.row("two pairs", x, 0, 22, 0, 22);
    }

    /** "-2: it can't be" */
    private static void putThatCannotBe() {
        EnginesAsleep x = lastInFirstOut(30, 5);
        x.inside(0);
        x.ring(4);
        for (int s = 0; s < 4; s++) {
            x.stall(s, 29, 3);
        }
        Check.due("30 in 29", x.put(), -2);
        Check.row("the row stays", x);
        x.stall(2, 30, 3);
        Check.due("30 in 30, 5 elsewhere", x.put(), 4 * (2 + 1));
        Check.row("30 in 30, 5 elsewhere", x, 2, 0);
        x.stall(2, 35, 3);
        shutAllBut(x, 2);
        Check.due("both in 35", x.put(), 4 * (2 + 2));
        x.stall(2, 34, 3);
        Check.due("both in 34", x.put(), -2);
        Check.row("the row stays again", x, 2, 2);
        Check.due("they come yet", x.count(5), 2);
    }

    /** "NONE: others, none told." */
    private static void roomOfOthers() {
        Busy.refused("none told", x -> x.room(0));
        Busy.refused("one in a stall", x -> x.room(1));
        Busy.refused("one in a stall and one on the road", x -> x.room(1 | 2));
        Busy.refused("none such", x -> x.room(32));
        Busy.refused("one and none such", x -> x.room(2 | 32));
        Busy.refused("one and the thirteenth", x -> x.room(2 | 1 << 12));
        Busy.refused("one and the highest bit", x -> x.room(2 | Integer.MIN_VALUE));
        Busy.refused("all bits", x -> x.room(-1));
        EnginesAsleep x = of(5, 5, 5, 5, 5, 5, 5, 5, 5, 5, 5, 5);
        Check.due("a thirteenth of twelve", x.room(1 << 12 | 1), -1);
        Check.due("the twelfth", x.room(1 << 11), 1);
        Check.row("the twelfth", x, 0);
    }

    /** All of them can be told; NONE is the least. */
    private static void roomOfTwelve() {
        EnginesAsleep x = of(5, 5, 5, 5, 5, 5, 5, 5, 5, 5, 5, 5);
        Check.due("twelve in eleven", x.room(4095), 11);
        Check.row("twelve in eleven", x, -1, 0, 1, 2, 3, 4, 5, 6, 7, 8, 9, 10);
        x.ring(12);
        Check.due("twelve in twelve", x.room(4095), 12);
        Check.row("twelve in twelve", x, 0, 1, 2, 3, 4, 5, 6, 7, 8, 9, 10, 11);
        x.ring(23);
        shutAllBut(x, 22, 21, 20, 19);
        Check.due("twelve in four", x.room(4095), 4);
        Check.row("twelve in four", x, -1, -1, -1, -1, -1, -1, -1, -1, 19, 20, 21, 22);
        x.ring(4);
        Check.due("of four, 3 and 7", x.room(0b10001000), 2);
        Check.row("of four, 3 and 7", x, 0, 1);
    }

    /** "no two to one" */
    private static void roomNoTwoToOne() {
        EnginesAsleep x = of(5, 5, 5);
        shutAllBut(x, 4);
        x.stall(4, 60, 3);
        Check.due("one stall for both", x.room(3), 1);
        Check.row("one stall for both", x, -1, 4);
        x.light(2);
        x.move(2, 4);
        Check.due("its front place", x.room(3), 1);
        Check.row("its front place", x, -1, 4);
    }

    /** "each to a STALL that TAKES it now" */
    private static void roomTakesNow() {
        EnginesAsleep x = of(10, 20, 30);
        x.engine(10, 1, 5, false);
        x.light(3);
        Check.rule(x, "s|l>10");
        Check.due("two are long, one is cold", x.room(11), 1);
        Check.row("two are long, one is cold", x, -1, 0, -1);
        x.pass(4);
        x.room(11);
        Check.row("a minute too early", x, -1, 0, -1);
        x.pass(1);
        Check.due("in steam", x.room(11), 2);
        Check.row("in steam", x, -1, 0, 1);
        Check.rule(x, "");
        shutAllBut(x, 2);
        x.stall(2, 29, 3);
        Check.due("30 in 29", x.room(4), 0);
        Check.row("30 in 29", x, -1);
        x.stall(2, 30, 3);
        Check.due("30 in 30", x.room(4), 1);
        x.stall(2, 40, 3);
        x.move(3, 2);
        Check.due("30 in front of 10 in 40", x.room(4), 1);
        x.stall(2, 39, 3);
        Check.due("30 in front of 10 in 39", x.room(4), 0);
        x.light(1);
        x.move(1, 2);
        Check.due("no place in front of two", x.room(1), 0);
    }

    /** "the ROW: of each told one, by number, its STALL (NONE for none): of equal ones the least row" */
    private static void roomOfEqualOnes() {
        EnginesAsleep x = of(10, 20, 30, 10);
        shutAllBut(x, 3, 5, 7);
        x.stall(3, 10, 3);
        x.stall(5, 20, 3);
        Check.due("three", x.room(7), 3);
        Check.row("each its own", x, 3, 5, 7);
        x.stall(7, 10, 3);
        Check.due("30 has none", x.room(7), 2);
        Check.row("30 has none", x, 3, 5, -1);
        Check.due("10, 20 and 10", x.room(11), 3);
        Check.row("10, 20 and 10", x, 3, 5, 7);
        x.shut(7, true);
        Check.due("two for three", x.room(11), 2);
        Check.row("the first has none", x, -1, 5, 3);
        x.shut(5, true);
        Check.due("one for three", x.room(11), 1);
        Check.row("the last one has it", x, -1, -1, 3);
        x.stall(3, 20, 3);
        x.room(3);
        Check.row("the later of two", x, -1, 3);
        Check.rule(x, "l=10");
        x.room(3);
        Check.row("the one that may be there", x, 3, -1);
    }

    /** None can come in: 0, and all have NONE. */
    private static void roomOfNone() {
        EnginesAsleep x = of(10, 10, 10);
        shutAllBut(x);
        Check.due("all are shut", x.room(7), 0);
        Check.row("all are shut", x, -1, -1, -1);
        Check.due("one of them", x.room(2), 0);
        Check.row("one of them", x, -1);
    }

    /** Nobody is moved by it. */
    private static void onlyAsk() {
        Busy.onlyAsks("put", x -> {
            x.leaves(4);
            x.put();
            x.nobody();
            x.comes(4);
            x.comes(1);
            return x.leaves(1);
        });
        Busy.onlyAsks("room", x -> x.room(2 | 16));
    }
}
