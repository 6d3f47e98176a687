/** Promises 11 to 17 and the STALLS and ENGINES of the Terms, sentence by sentence. */
public final class EnginesEdgesTest {
    private static final int[] WILD = {Integer.MIN_VALUE, Integer.MIN_VALUE + 1, -1000, 1000, 1 << 30, Integer.MAX_VALUE};

    public static void main(String[] args) {
        engineOfOthers();
        engineToItsEnds();
        engineIsTheTwelfth();
        engineOnTheRoad();
        lightOfOthers();
        lightNow();
        dropOfOthers();
        dropTellsMinutes();
        deadOfOthers();
        deadOrNot();
        ofNoneSuch();
        ofItsPoint();
        ofItsPlace();
        ofItsSteam();
        ofTheOneInFront();
        ofItsHood();
        backThenFront();
        takesOfOthers();
        takesUnlessShut();
        takesFewerThanTwo();
        takesJustAsLong();
        takesFromAnywhere();
        takesNotWhereItIs();
        smokeInStallsAlone();
        smokeOfLitOnes();
        smokeUnderEachHood();
        Check.end();
    }

    private static EnginesAsleep lit(int... lengths) {
        EnginesAsleep x = new EnginesAsleep();
        for (int e = 0; e < lengths.length; e++) {
            x.engine(lengths[e], 1, 0, false);
            x.light(e);
        }
        return x;
    }

    /** "Refused: others, 12." */
    private static void engineOfOthers() {
        Busy.refused("LONG 4", x -> x.engine(4, 1, 1, false));
        Busy.refused("LONG 31", x -> x.engine(31, 1, 1, false));
        Busy.refused("CLASS -1", x -> x.engine(10, -1, 1, false));
        Busy.refused("CLASS 6", x -> x.engine(10, 6, 1, true));
        Busy.refused("RAISE -1", x -> x.engine(10, 1, -1, true));
        Busy.refused("RAISE 601", x -> x.engine(10, 1, 601, false));
        for (int v : WILD) {
            Busy.refused("LONG " + v, x -> x.engine(v, 1, 1, false));
            Busy.refused("CLASS " + v, x -> x.engine(10, v, 1, false));
            Busy.refused("RAISE " + v, x -> x.engine(10, 1, v, false));
        }
    }

    /** "LONG 5 .. 30, CLASS 0 .. 5, RAISE 0 .. 600" */
    private static void engineToItsEnds() {
        EnginesAsleep x = new EnginesAsleep();
        Check.due("LONG 5", x.engine(5, 1, 1, false), 0);
        Check.due("LONG 30", x.engine(30, 1, 1, false), 1);
        Check.due("CLASS 0", x.engine(10, 0, 1, false), 2);
        Check.due("CLASS 5", x.engine(10, 5, 1, false), 3);
        Check.due("RAISE 0", x.engine(10, 1, 0, false), 4);
        Check.due("RAISE 600", x.engine(10, 1, 600, false), 5);
        Check.due("CLASS 0 is told", x.of(2, 2), 0);
        Check.due("CLASS 5 is told", x.of(3, 2), 5);
        x.light(4);
        Check.due("RAISE 0 is at once", x.of(4, 4), 1);
        x.light(5);
        x.pass(599);
        Check.due("599 minutes", x.of(5, 4), 0);
        x.pass(1);
        Check.due("600 minutes", x.of(5, 4), 1);
        x.move(4, 0);
        Check.due("5 and 10 in 30", x.takes(0, 0), 1);
        Check.due("30 and 10 in 30", x.takes(0, 1), 0);
        x.stall(0, 15, 3);
        Check.due("5 and 10 in 15", x.takes(0, 0), 1);
        x.stall(0, 14, 3);
        Check.due("5 and 10 in 14", x.takes(0, 0), 0);
        x.stall(0, 40, 3);
        Check.due("30 and 10 in 40", x.takes(0, 1), 1);
        x.stall(0, 39, 3);
        Check.due("30 and 10 in 39", x.takes(0, 1), 0);
    }

    private static EnginesAsleep twelve() {
        EnginesAsleep x = Busy.made();
        for (int e = 5; e < 12; e++) {
            x.engine(6, 1, 0, false);
        }
        x.inside(1);
        return x;
    }

    /** "ENGINES 0 .. (at most 12)" */
    private static void engineIsTheTwelfth() {
        EnginesAsleep x = new EnginesAsleep();
        for (int e = 0; e < 12; e++) {
            Check.due("engine", x.engine(10, 1, 0, false), e);
            Check.due("engines", x.count(1), e + 1);
        }
        Busy.refused("a thirteenth", EnginesEdgesTest::twelve, y -> y.engine(10, 1, 0, false));
        Check.due("the last one can be lit", x.light(11), true);
        Check.due("the thirteenth can't", x.light(12), false);
    }

    /** "An ENGINE on THE ROAD: its number", neither LIT nor DEAD. */
    private static void engineOnTheRoad() {
        EnginesAsleep x = new EnginesAsleep();
        x.ring(23);
        x.pass(50);
        x.engine(10, 3, 0, false);
        int[] due = {23, 0, 3, -1, 0, 0, 0};
        for (int what = 0; what < due.length; what++) {
            Check.due("of(0, " + what + ")", x.of(0, what), due[what]);
        }
        Check.due("none dead", x.count(9), 0);
        Check.due("none lit", x.count(8), 0);
        Check.due("none in stalls", x.count(7), 0);
        Check.due("the table stays", x.count(3), 23);
    }

    /** "Refused: none such, it is LIT." */
    private static void lightOfOthers() {
        Busy.denied("light(-1)", x -> x.light(-1));
        Busy.denied("light(5) of five", x -> x.light(5));
        Busy.denied("one that is lit", x -> x.light(0));
        Busy.denied("one lit just now", x -> x.light(1));
        Busy.denied("one lit at 0, as NOW is 10", x -> x.light(4));
        for (int v : WILD) {
            Busy.denied("light(" + v + ")", x -> x.light(v));
        }
    }

    /** "An ENGINE is LIT NOW: true", a dead one, one in a stall, one at MINUTE 0 too. */
    private static void lightNow() {
        EnginesAsleep x = new EnginesAsleep();
        x.engine(10, 1, 0, false);
        x.engine(10, 1, 0, false);
        x.dead(1, true);
        Check.due("at minute 0", x.light(0), true);
        Check.due("lit at 0", x.of(0, 3), 0);
        Check.due("bits", x.count(8), 1);
        Check.due("lit at 0 is lit", x.light(0), false);
        x.pass(600);
        Check.due("a dead one", x.light(1), true);
        Check.due("lit at 600", x.of(1, 3), 600);
        Check.due("the other one as it was", x.of(0, 3), 0);
        Check.due("both", x.count(8), 3);
        x.drop(0);
        x.dead(1, false);
        x.drag(0, 1, 3);
        Check.due("one in a stall", x.light(0), true);
        Check.due("NOW", x.of(0, 3), x.count(2));
    }

    /** "Refused: none such, not LIT." */
    private static void dropOfOthers() {
        Busy.refused("drop(-1)", x -> x.drop(-1));
        Busy.refused("drop(5) of five", x -> x.drop(5));
        Busy.refused("one that is not lit", x -> x.drop(3));
        for (int v : WILD) {
            Busy.refused("drop(" + v + ")", x -> x.drop(v));
        }
        EnginesAsleep x = lit(10);
        x.drop(0);
        Check.due("dropped already", x.drop(0), -1);
    }

    /** "for how many minutes it was LIT" */
    private static void dropTellsMinutes() {
        EnginesAsleep x = new EnginesAsleep();
        x.engine(10, 1, 600, false);
        x.pass(3);
        x.light(0);
        Check.due("at once", x.drop(0), 0);
        Check.due("not lit", x.of(0, 3), -1);
        Check.due("not in steam", x.of(0, 4), 0);
        x.light(0);
        x.pass(1);
        Check.due("a minute", x.drop(0), 1);
        x.light(0);
        x.pass(600);
        x.pass(600);
        Check.due("1200 minutes", x.drop(0), 1200);
        Check.due("no bits", x.count(8), 0);
        x.light(0);
        Check.due("not in steam, though it was", x.of(0, 4), 0);
        EnginesAsleep y = lit(10, 10);
        y.pass(7);
        y.drop(1);
        y.light(1);
        y.pass(5);
        Check.due("each its own minutes", y.drop(1), 5);
        Check.due("each its own minutes", y.drop(0), 12);
    }

    /** "Refused: none such." */
    private static void deadOfOthers() {
        Busy.denied("dead(-1, true)", x -> x.dead(-1, true));
        Busy.denied("dead(5, true) of five", x -> x.dead(5, true));
        Busy.denied("dead(5, false) of five", x -> x.dead(5, false));
        Busy.denied("dead(32, true)", x -> x.dead(32, true));
        for (int v : WILD) {
            Busy.denied("dead(" + v + ", true)", x -> x.dead(v, true));
        }
    }

    /** "An ENGINE is DEAD or not: true." It is no matter what it was. */
    private static void deadOrNot() {
        EnginesAsleep x = lit(10, 10, 10);
        Check.due("not dead, made so", x.dead(1, false), true);
        Check.due("none", x.count(9), 0);
        Check.due("dead", x.dead(1, true), true);
        Check.due("dead, made so", x.dead(1, true), true);
        Check.due("this one", x.count(9), 2);
        x.dead(0, true);
        x.dead(2, true);
        Check.due("all three", x.count(9), 7);
        x.dead(1, false);
        Check.due("two", x.count(9), 5);
        Check.due("its fire is as it was", x.of(0, 3), 0);
        Check.due("it is in steam", x.of(0, 4), 1);
        Check.due("but may not go", x.move(0, 1), -1);
        Check.due("the other may", x.move(1, 1), 6);
    }

    /** "NoSuchElementException: none such, another what." */
    private static void ofNoneSuch() {
        EnginesAsleep x = Busy.made();
        for (int what = -1; what <= 7; what++) {
            Check.ofThrows(x, -1, what);
            Check.ofThrows(x, 5, what);
            Check.ofThrows(x, Integer.MIN_VALUE, what);
            Check.ofThrows(x, Integer.MAX_VALUE, what);
        }
        for (int e = 0; e < 5; e++) {
            Check.ofThrows(x, e, -1);
            Check.ofThrows(x, e, 7);
            for (int v : WILD) {
                Check.ofThrows(x, e, v);
            }
        }
        Check.same("of() that throws", Busy.all(Busy.made(), true), Busy.all(x, true));
        Check.ofThrows(new EnginesAsleep(), 0, 0);
    }

    /** "0: its POINT" */
    private static void ofItsPoint() {
        EnginesAsleep x = lit(10, 10);
        Check.due("the road", x.of(0, 0), 11);
        x.move(0, 0);
        Check.due("stall 0", x.of(0, 0), 0);
        x.move(1, 0);
        Check.due("stall 0, at the front", x.of(1, 0), 0);
        x.move(1, 10);
        Check.due("stall 10", x.of(1, 0), 10);
        x.move(1, 11);
        Check.due("the road again", x.of(1, 0), 11);
        x.move(0, 11);
        x.ring(23);
        Check.due("the road of 23", x.of(1, 0), 23);
    }

    /** "1: 1 if it stands at a BACK" */
    private static void ofItsPlace() {
        EnginesAsleep x = lit(10, 10);
        Check.due("on the road", x.of(0, 1), 0);
        x.move(0, 0);
        Check.due("alone", x.of(0, 1), 1);
        x.move(1, 0);
        Check.due("behind another", x.of(0, 1), 1);
        Check.due("at the front", x.of(1, 1), 0);
        x.move(1, 4);
        Check.due("the other, alone elsewhere", x.of(1, 1), 1);
        Check.due("alone again", x.of(0, 1), 1);
        x.move(0, 11);
        Check.due("on the road again", x.of(0, 1), 0);
    }

    /** "3: the MINUTE at which it was LIT (NONE), 4: 1 if it is IN STEAM NOW": just as many minutes are enough. */
    private static void ofItsSteam() {
        EnginesAsleep x = new EnginesAsleep();
        x.engine(10, 1, 2, false);
        Check.due("not lit", x.of(0, 3), -1);
        Check.due("not in steam", x.of(0, 4), 0);
        x.pass(5);
        x.light(0);
        Check.due("lit at 5", x.of(0, 3), 5);
        Check.due("no minute", x.of(0, 4), 0);
        x.pass(1);
        Check.due("one minute of two", x.of(0, 4), 0);
        x.pass(1);
        Check.due("two minutes", x.of(0, 4), 1);
        x.pass(1);
        Check.due("three minutes", x.of(0, 4), 1);
        Check.due("lit at 5 yet", x.of(0, 3), 5);
        x.dead(0, true);
        Check.due("a dead one is in steam", x.of(0, 4), 1);
    }

    /** "5: 1 if another one stands in FRONT of it" */
    private static void ofTheOneInFront() {
        EnginesAsleep x = lit(10, 10, 10);
        Check.due("on the road", x.of(0, 5), 0);
        x.move(0, 2);
        Check.due("alone", x.of(0, 5), 0);
        x.move(2, 3);
        Check.due("one in another stall", x.of(0, 5), 0);
        x.move(1, 2);
        Check.due("one in front", x.of(0, 5), 1);
        Check.due("the front one", x.of(1, 5), 0);
        x.move(1, 11);
        Check.due("alone again", x.of(0, 5), 0);
    }

    /** "6: 1 if a HOOD is over it (else 0; on THE ROAD 0)": 1 over the FRONT, 2 over the BACK. */
    private static void ofItsHood() {
        EnginesAsleep x = lit(10, 10);
        Check.due("on the road", x.of(0, 6), 0);
        x.move(0, 2);
        x.move(1, 2);
        int[] back = {0, 0, 1, 1};
        int[] front = {0, 1, 0, 1};
        for (int hoods = 0; hoods < 4; hoods++) {
            x.stall(2, 30, hoods);
            Check.due("back under " + hoods, x.of(0, 6), back[hoods]);
            Check.due("front under " + hoods, x.of(1, 6), front[hoods]);
        }
        x.drop(1);
        Check.due("a cold one has it too", x.of(1, 6), 1);
        x.light(1);
        x.move(1, 11);
        Check.due("on the road again", x.of(1, 6), 0);
    }

    /** "who comes in goes to its BACK, if none is in it, else to its FRONT; if the one at the FRONT goes, the other one stays at its BACK" */
    private static void backThenFront() {
        EnginesAsleep x = lit(10, 10, 10);
        x.move(0, 5);
        x.move(1, 5);
        Check.due("two", x.inside(5), 2);
        Check.row("the first is at the back", x, 0, 1);
        Check.due("the back one can't go", x.move(0, 11), -1);
        x.move(1, 11);
        x.inside(5);
        Check.row("the back one stays", x, 0);
        x.move(2, 5);
        x.inside(5);
        Check.row("the next one comes to the front", x, 0, 2);
        x.move(2, 11);
        x.move(0, 11);
        Check.due("none", x.inside(5), 0);
        x.move(1, 5);
        Check.due("to the back again", x.of(1, 1), 1);
    }

    /** "NONE: none such." */
    private static void takesOfOthers() {
        Busy.refused("takes(-1, 0)", x -> x.takes(-1, 0));
        Busy.refused("the road takes(6, 0)", x -> x.takes(6, 0));
        Busy.refused("takes(7, 0)", x -> x.takes(7, 0));
        Busy.refused("takes(0, -1)", x -> x.takes(0, -1));
        Busy.refused("takes(0, 5)", x -> x.takes(0, 5));
        for (int v : WILD) {
            Busy.refused("takes(" + v + ", 0)", x -> x.takes(v, 0));
            Busy.refused("takes(0, " + v + ")", x -> x.takes(0, v));
        }
    }

    /** "if it is not SHUT" */
    private static void takesUnlessShut() {
        EnginesAsleep x = lit(10, 10);
        x.shut(3, true);
        Check.due("shut", x.takes(3, 0), 0);
        Check.due("ahead of it", x.takes(2, 0), 1);
        Check.due("behind it", x.takes(4, 0), 1);
        x.shut(3, false);
        Check.due("not shut", x.takes(3, 0), 1);
        x.move(0, 3);
        Check.due("a front place", x.takes(3, 1), 1);
        x.shut(3, true);
        Check.due("a front place, shut", x.takes(3, 1), 0);
    }

    /** "fewer than two are in it" */
    private static void takesFewerThanTwo() {
        EnginesAsleep x = lit(5, 5, 5);
        x.stall(3, 60, 3);
        Check.due("none in it", x.takes(3, 2), 1);
        x.move(0, 3);
        Check.due("one in it", x.takes(3, 2), 1);
        x.move(1, 3);
        Check.due("two in it", x.takes(3, 2), 0);
        Check.due("no move", x.move(2, 3), -1);
        x.move(1, 4);
        Check.due("one in it again", x.takes(3, 2), 1);
    }

    /** "LONGS of all in it and of the new one together are not above its LONG" */
    private static void takesJustAsLong() {
        EnginesAsleep x = lit(12, 13, 30, 29);
        x.stall(3, 29, 3);
        Check.due("30 in 29", x.takes(3, 2), 0);
        Check.due("29 in 29", x.takes(3, 3), 1);
        x.stall(3, 12, 3);
        Check.due("13 in 12", x.takes(3, 1), 0);
        Check.due("12 in 12", x.takes(3, 0), 1);
        x.stall(3, 24, 3);
        x.move(0, 3);
        Check.due("12 and 13 in 24", x.takes(3, 1), 0);
        x.stall(3, 25, 3);
        Check.due("12 and 13 in 25", x.takes(3, 1), 1);
        x.stall(3, 41, 3);
        Check.due("12 and 30 in 41", x.takes(3, 2), 0);
        x.stall(3, 42, 3);
        Check.due("12 and 30 in 42", x.takes(3, 2), 1);
    }

    /** "(where it is does not matter ..)": behind another, cold, dead, on the road. */
    private static void takesFromAnywhere() {
        EnginesAsleep x = lit(10, 10);
        x.move(0, 3);
        x.move(1, 3);
        Check.due("behind another", x.takes(4, 0), 1);
        Check.due("in front", x.takes(4, 1), 1);
        x.drop(0);
        x.dead(0, true);
        Check.due("cold, dead, behind another", x.takes(4, 0), 1);
        x.move(1, 11);
        Check.due("on the road", x.takes(3, 1), 1);
        Check.due("where another is", x.takes(3, 1), 1);
    }

    /** "(.. but that it is not in that one)" */
    private static void takesNotWhereItIs() {
        EnginesAsleep x = lit(10, 10);
        x.stall(3, 60, 3);
        x.move(0, 3);
        Check.due("it is in that one alone", x.takes(3, 0), 0);
        x.move(1, 3);
        Check.due("at the back of it", x.takes(3, 0), 0);
        Check.due("at the front of it", x.takes(3, 1), 0);
        x.move(1, 11);
        Check.due("it was in that one", x.takes(3, 1), 1);
    }

    /** "ENGINES (bits) in STALLS" */
    private static void smokeInStallsAlone() {
        EnginesAsleep x = new EnginesAsleep();
        Check.due("no engines", x.smoke(), 0);
        for (int e = 0; e < 12; e++) {
            x.engine(5, 1, 0, false);
            x.light(e);
        }
        for (int s = 0; s < 11; s++) {
            x.stall(s, 60, 0);
        }
        Check.due("twelve on the road", x.smoke(), 0);
        for (int e = 0; e < 12; e++) {
            x.move(e, e / 2);
            Check.due("smoke of the first " + (e + 1), x.smoke(), (1 << e + 1) - 1);
        }
        x.move(11, 11);
        Check.due("the last one is out", x.smoke(), 2047);
    }

    /** ".. that are LIT": not those in steam alone, and dead ones too. */
    private static void smokeOfLitOnes() {
        EnginesAsleep x = lit(10, 10);
        x.engine(10, 1, 600, false);
        x.drag(2, 0, 4);
        x.stall(4, 30, 0);
        Check.due("a cold one", x.smoke(), 0);
        x.light(2);
        Check.due("lit just now, not in steam", x.smoke(), 4);
        x.dead(2, true);
        Check.due("a dead one", x.smoke(), 4);
        x.drop(2);
        Check.due("its fire is dropped", x.smoke(), 0);
    }

    /** ".. and have no HOOD over them." */
    private static void smokeUnderEachHood() {
        EnginesAsleep x = lit(10, 10, 10);
        x.move(0, 2);
        x.move(1, 2);
        x.move(2, 6);
        int[] due = {3, 1, 2, 0};
        for (int hoods = 0; hoods < 4; hoods++) {
            x.stall(2, 30, hoods);
            Check.due("both under " + hoods, x.smoke(), due[hoods]);
        }
        x.stall(6, 30, 1);
        Check.due("alone, a hood over the front", x.smoke(), 4);
        x.stall(6, 30, 2);
        Check.due("alone, a hood over the back", x.smoke(), 0);
    }
}
