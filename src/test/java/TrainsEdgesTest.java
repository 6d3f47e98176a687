/** Promises 35 to 43, sentence by sentence: trains, THE PLAN, who fits, who fails, and the men of the trains. */
public final class TrainsEdgesTest {
    private static final int[] WILD = {Integer.MIN_VALUE, Integer.MIN_VALUE + 1, -1000, 1 << 30, Integer.MAX_VALUE};

    public static void main(String[] args) {
        trainOfOthers();
        trainToItsEnds();
        trainIsTheEighth();
        planOfOthers();
        planOfOneWithAnotherTrain();
        planOfNone();
        planOfAny();
        fitsOfOthers();
        fitsNotDead();
        fitsOfItsClass();
        fitsAsItWasLit();
        fitsLitNow();
        mostOfNone();
        mostOfEight();
        mostNoneTwo();
        mostOfEqualOnes();
        failsOfOthers();
        failsWithoutThatOne();
        failsWithTheMostHad();
        failsWithTheFewestParted();
        failsOfEqualOnes();
        failsOfEight();
        soonestOfOthers();
        soonestOfEqualOnes();
        soonestOnTheRoad();
        soonestByFree();
        soonestThatFits();
        soonestOfNone();
        wrongWithNoTrain();
        wrongOfALaterMinute();
        wrongOfPlannedOnesAtABack();
        exchangeOfNone();
        exchangeBothPlanned();
        exchangeEachFits();
        exchangeOfEqualOnes();
        exchangeNoneLess();
        crewsOfOthers();
        crewsOfNone();
        crewsRestJustAsLong();
        crewsOutJustAsLong();
        crewsOneAloneTooLong();
        crewsAtTheSameMinute();
        crewsOfEqualOnes();
        crewsNotTheFirstThatGoes();
        crewsOfEight();
        onlyAsk();
        Check.end();
    }

    /** Engines of these classes, 10 long, raise 0, cold. */
    private static EnginesAsleep classes(int... kinds) {
        EnginesAsleep x = new EnginesAsleep();
        for (int kind : kinds) {
            x.engine(10, kind, 0, false);
        }
        return x;
    }

    /** Engines of these raises, 10 long, class 1, cold. */
    private static EnginesAsleep raises(int... minutes) {
        EnginesAsleep x = new EnginesAsleep();
        for (int m : minutes) {
            x.engine(10, 1, m, false);
        }
        return x;
    }

    private static void trains(EnginesAsleep x, int... minutes) {
        for (int m : minutes) {
            x.train(m, 0, 10);
        }
    }

    private static void plan(EnginesAsleep x, int... engines) {
        for (int t = 0; t < engines.length; t++) {
            x.plan(t, -1);
        }
        for (int t = 0; t < engines.length; t++) {
            x.plan(t, engines[t]);
        }
    }

    /** "Refused: others" */
    private static void trainOfOthers() {
        Busy.refused("MINUTE -1", x -> x.train(-1, 1, 1));
        Busy.refused("MINUTE 2001", x -> x.train(2001, 1, 1));
        Busy.refused("CLASS -1", x -> x.train(1, -1, 1));
        Busy.refused("CLASS 6", x -> x.train(1, 6, 1));
        Busy.refused("away 0", x -> x.train(1, 1, 0));
        Busy.refused("away -1", x -> x.train(1, 1, -1));
        Busy.refused("away 601", x -> x.train(1, 1, 601));
        for (int v : WILD) {
            Busy.refused("MINUTE " + v, x -> x.train(v, 1, 1));
            Busy.refused("CLASS " + v, x -> x.train(1, v, 1));
            Busy.refused("away " + v, x -> x.train(1, 1, v));
        }
    }

    /** "of a MINUTE 0 .. 2000, a CLASS (at least), away for so many minutes (1 .. 600)" */
    private static void trainToItsEnds() {
        EnginesAsleep x = classes(0, 5);
        Check.due("MINUTE 0", x.train(0, 1, 1), 0);
        Check.due("MINUTE 2000", x.train(2000, 1, 1), 1);
        Check.due("CLASS 0", x.train(5, 0, 1), 2);
        Check.due("CLASS 5", x.train(5, 5, 1), 3);
        Check.due("away 600", x.train(5, 1, 600), 4);
        Check.due("five", x.count(4), 5);
        Check.due("class 0 fits 0", x.fits(0, 2), 1);
        Check.due("class 0 does not fit 5", x.fits(0, 3), 0);
        Check.due("class 5 fits 5", x.fits(1, 3), 1);
        Check.due("minute 0", x.fits(1, 0), 1);
        x.pass(600);
        Check.due("a train of a MINUTE that is gone", x.train(0, 1, 1), 5);
        Check.due("599 is shorter than one", x.crews(0, 599), -2);
        Check.due("600 is not", x.crews(0, 600) > 0, true);
    }

    private static EnginesAsleep eightTrains() {
        EnginesAsleep x = Busy.made();
        for (int t = 3; t < 8; t++) {
            x.train(100 * t, 1, 10);
        }
        x.inside(1);
        return x;
    }

    /** "(at most 8)", "Refused: .. 8." */
    private static void trainIsTheEighth() {
        EnginesAsleep x = new EnginesAsleep();
        for (int t = 0; t < 8; t++) {
            Check.due("train", x.train(10, 1, 1), t);
            Check.due("trains", x.count(4), t + 1);
        }
        Check.due("a ninth", x.train(10, 1, 1), -1);
        Busy.refused("a ninth", TrainsEdgesTest::eightTrains, y -> y.train(10, 1, 1));
    }

    /** "Refused: others" */
    private static void planOfOthers() {
        Busy.denied("train -1", x -> x.plan(-1, 1));
        Busy.denied("train 3 of three", x -> x.plan(3, 1));
        Busy.denied("none for train 3 of three", x -> x.plan(3, -1));
        Busy.denied("engine -2", x -> x.plan(2, -2));
        Busy.denied("engine 5 of five", x -> x.plan(2, 5));
        for (int v : WILD) {
            Busy.denied("train " + v, x -> x.plan(v, 1));
            Busy.denied("engine " + v, x -> x.plan(2, v));
        }
    }

    /** "Refused: .. it has another TRAIN" */
    private static void planOfOneWithAnotherTrain() {
        Busy.denied("0 has train 0", x -> x.plan(1, 0));
        Busy.denied("4 has train 1", x -> x.plan(0, 4));
        Busy.denied("4 has train 1, 2 has none", x -> x.plan(2, 4));
        EnginesAsleep x = classes(1, 1);
        trains(x, 50, 60);
        Check.due("0 for the first", x.plan(0, 0), true);
        Check.due("once more", x.plan(0, 0), true);
        Check.due("for the second too", x.plan(1, 0), false);
        Check.due("another one for the first", x.plan(0, 1), true);
        Check.due("now it has none", x.plan(1, 0), true);
        Check.due("the first again", x.plan(0, 0), false);
    }

    /** "(NONE: none)" */
    private static void planOfNone() {
        EnginesAsleep x = classes(1, 1);
        trains(x, 50, 60);
        Check.due("none, as it is", x.plan(0, -1), true);
        Check.due("none for another one too", x.plan(1, -1), true);
        x.morning();
        Check.row("none", x, -2, -2);
        x.plan(0, 1);
        x.morning();
        Check.row("one", x, 0, -2);
        Check.due("none again", x.plan(0, -1), true);
        x.morning();
        Check.row("none again", x, -2, -2);
        Check.due("it has no train now", x.plan(1, 1), true);
    }

    /** "An ENGINE .. is planned": whether it FITS or not, wherever it is. */
    private static void planOfAny() {
        EnginesAsleep x = raises(600, 0);
        x.train(0, 5, 1);
        trains(x, 10);
        x.light(1);
        x.move(1, 3);
        x.dead(0, true);
        Check.due("a dead, cold one of a low class", x.plan(0, 0), true);
        Check.due("one in a stall", x.plan(1, 1), true);
    }

    /** "NONE: none such." */
    private static void fitsOfOthers() {
        Busy.refused("engine -1", x -> x.fits(-1, 0));
        Busy.refused("engine 5 of five", x -> x.fits(5, 0));
        Busy.refused("train -1", x -> x.fits(0, -1));
        Busy.refused("train 3 of three", x -> x.fits(0, 3));
        for (int v : WILD) {
            Busy.refused("engine " + v, x -> x.fits(v, 0));
            Busy.refused("train " + v, x -> x.fits(0, v));
        }
    }

    /** "not DEAD" */
    private static void fitsNotDead() {
        EnginesAsleep x = classes(1, 1);
        trains(x, 50);
        x.light(1);
        x.dead(0, true);
        x.dead(1, true);
        Check.due("a dead one, cold", x.fits(0, 0), 0);
        Check.due("a dead one, lit", x.fits(1, 0), 0);
        x.dead(0, false);
        Check.due("not dead any more", x.fits(0, 0), 1);
    }

    /** "its CLASS is that at least" */
    private static void fitsOfItsClass() {
        EnginesAsleep x = classes(0, 1, 2, 3, 4, 5);
        for (int kind = 0; kind < 6; kind++) {
            x.train(50, kind, 1);
            for (int e = 0; e < 6; e++) {
                Check.due("class " + e + " for " + kind, x.fits(e, kind), e >= kind ? 1 : 0);
            }
        }
    }

    /** "it is IN STEAM at the TRAIN's MINUTE as it was LIT": not, if it was LIT behind it. */
    private static void fitsAsItWasLit() {
        EnginesAsleep x = raises(30, 0);
        trains(x, 79, 80, 49, 50);
        x.pass(50);
        x.light(0);
        x.light(1);
        Check.due("29 minutes of 30", x.fits(0, 0), 0);
        Check.due("30 of 30", x.fits(0, 1), 1);
        Check.due("lit a minute behind it", x.fits(1, 2), 0);
        Check.due("lit at that minute", x.fits(1, 3), 1);
        x.pass(600);
        Check.due("29 of 30, long ago", x.fits(0, 0), 0);
        Check.due("30 of 30, long ago", x.fits(0, 1), 1);
        Check.due("at that minute, long ago", x.fits(1, 3), 1);
        EnginesAsleep y = raises(0, 0);
        trains(y, 10);
        y.pass(10);
        y.light(0);
        y.pass(1);
        y.light(1);
        Check.due("the first was lit in time", y.fits(0, 0), 1);
        Check.due("the second was not", y.fits(1, 0), 0);
    }

    /** "or, if it is not LIT, would be, LIT NOW" */
    private static void fitsLitNow() {
        EnginesAsleep x = raises(30, 0);
        trains(x, 30, 29, 0);
        Check.due("30 of 30", x.fits(0, 0), 1);
        Check.due("29 of 30", x.fits(0, 1), 0);
        Check.due("raise 0, NOW", x.fits(1, 2), 1);
        x.pass(1);
        Check.due("29 of 30, a minute later", x.fits(0, 0), 0);
        Check.due("raise 0, a minute ago", x.fits(1, 2), 0);
        x.light(1);
        x.drop(1);
        Check.due("its fire is dropped", x.fits(1, 2), 0);
        Check.due("it is not lit by it", x.of(0, 3), -1);
    }

    /** No TRAINS, no ENGINES, none that FITS. */
    private static void mostOfNone() {
        EnginesAsleep x = classes(1);
        x.light(0);
        x.move(0, 3);
        x.inside(3);
        Check.due("no trains", x.most(), 0);
        Check.row("no trains", x);
        EnginesAsleep y = new EnginesAsleep();
        trains(y, 50, 50);
        Check.due("no engines", y.most(), 0);
        Check.row("no engines", y, -1, -1);
        EnginesAsleep z = classes(1, 1);
        z.train(50, 2, 1);
        Check.due("none fits", z.most(), 0);
        Check.row("none fits", z, -1);
    }

    private static EnginesAsleep eightOf(int... kinds) {
        EnginesAsleep x = new EnginesAsleep();
        for (int kind : kinds) {
            x.train(50, kind, 10);
        }
        return x;
    }

    private static void engines(EnginesAsleep x, int... kinds) {
        for (int kind : kinds) {
            x.engine(10, kind, 0, false);
        }
    }

    /** Eight TRAINS, up to twelve ENGINES. */
    private static void mostOfEight() {
        EnginesAsleep x = eightOf(5, 5, 5, 4, 4, 0, 0, 0);
        engines(x, 0, 1, 2, 3, 4, 5, 0, 1, 2, 3, 4, 5);
        Check.due("eight and twelve", x.most(), 7);
        Check.row("eight and twelve", x, -1, 5, 11, 4, 10, 0, 1, 2);
        EnginesAsleep y = eightOf(0, 0, 0, 0, 0, 0, 0, 0);
        engines(y, 5);
        Check.due("eight and one", y.most(), 1);
        Check.row("eight and one: the last has it", y, -1, -1, -1, -1, -1, -1, -1, 0);
        engines(y, 5, 5, 5, 5, 5, 5, 5);
        Check.due("eight and eight", y.most(), 8);
        Check.row("eight and eight", y, 0, 1, 2, 3, 4, 5, 6, 7);
        engines(y, 5, 5, 5, 5);
        Check.due("eight and twelve equal ones", y.most(), 8);
        Check.row("eight and twelve equal ones", y, 0, 1, 2, 3, 4, 5, 6, 7);
        for (int e = 0; e < 8; e++) {
            y.dead(e, true);
        }
        Check.due("the last four", y.most(), 4);
        Check.row("the last four", y, -1, -1, -1, -1, 8, 9, 10, 11);
    }

    /** "that can have ENGINES that FIT, none two" */
    private static void mostNoneTwo() {
        EnginesAsleep x = classes(5);
        x.train(50, 0, 1);
        x.train(500, 5, 1);
        Check.due("one for both", x.most(), 1);
        Check.row("one for both: the later has it", x, -1, 0);
        engines(x, 0);
        Check.due("each one", x.most(), 2);
        Check.row("each one", x, 1, 0);
    }

    /** "of equal ones the least row", whatever THE PLAN is */
    private static void mostOfEqualOnes() {
        EnginesAsleep x = classes(3, 3, 0, 3);
        x.train(50, 0, 1);
        x.train(50, 3, 1);
        x.train(50, 0, 1);
        plan(x, 3, 1, 2);
        Check.due("all three", x.most(), 3);
        Check.row("all three", x, 0, 1, 2);
        x.dead(0, true);
        x.most();
        Check.row("without 0", x, 1, 3, 2);
        x.dead(3, true);
        Check.due("1 and 2", x.most(), 2);
        Check.row("none for the first, the least", x, -1, 1, 2);
    }

    /** "NONE: none such." */
    private static void failsOfOthers() {
        Busy.refused("fails(-1)", x -> x.fails(-1));
        Busy.refused("fails(5) of five", x -> x.fails(5));
        for (int v : WILD) {
            Busy.refused("fails(" + v + ")", x -> x.fails(v));
        }
        EnginesAsleep x = classes(1);
        Check.due("no trains", x.fails(0), 0);
        Check.row("no trains: none had", x, 0);
    }

    /** "(without that one)": though it is no DEAD one, and stays what it is. */
    private static void failsWithoutThatOne() {
        EnginesAsleep x = classes(5);
        trains(x, 50);
        plan(x, 0);
        Check.due("the only one", x.fails(0), 1);
        Check.row("the only one", x, 0, -1);
        Check.due("it fits yet", x.fits(0, 0), 1);
        plan(x, -1);
        Check.due("the only one, not planned", x.fails(0), 0);
        Check.row("the only one, not planned", x, 0, -1);
    }

    /** "with the most TRAINS had", though others part in fewer */
    private static void failsWithTheMostHad() {
        EnginesAsleep x = classes(5, 0, 5);
        x.train(50, 0, 1);
        x.train(50, 5, 1);
        plan(x, 0, 2);
        // Without 2: 0 for the second and 1 for the first; 0 stays where it is in a row with one had.
        Check.due("both are had", x.fails(2), 2);
        Check.row("both are had", x, 2, 1, 0);
        plan(x, -1, -1);
        Check.due("none planned: all part", x.fails(1), 2);
        Check.row("none planned: all part", x, 2, 0, 2);
    }

    /** "those that part from THE PLAN in the fewest TRAINS" */
    private static void failsWithTheFewestParted() {
        EnginesAsleep x = classes(1, 1, 1, 1);
        trains(x, 50, 50, 50);
        plan(x, 3, 2, 1);
        Check.due("0 fails, who has none", x.fails(0), 0);
        Check.row("0 fails, who has none", x, 3, 3, 2, 1);
        Check.due("2 fails", x.fails(2), 1);
        Check.row("2 fails: 0 for it", x, 3, 3, 0, 1);
        x.dead(0, true);
        Check.due("2 fails, 0 is dead", x.fails(2), 1);
        Check.row("2 fails, 0 is dead: none for it", x, 2, 3, -1, 1);
        x.dead(3, true);
        Check.due("one that is planned does not fit any more", x.fails(0), 1);
        Check.row("one that is planned does not fit any more", x, 2, -1, 2, 1);
        plan(x, 3, -1, 1);
        Check.due("3 is dead, the second train has none", x.fails(0), 1);
        Check.row("2 for 3, the others as they are", x, 2, 2, -1, 1);
    }

    /** "of equal ones the least row: in how many; the ROW: how many TRAINS are had, then of each its ENGINE. THE PLAN stays." */
    private static void failsOfEqualOnes() {
        EnginesAsleep x = classes(1, 1, 1, 1);
        trains(x, 50, 50);
        plan(x, 3, 2);
        Check.due("3 fails", x.fails(3), 1);
        Check.row("0 or 1 for it", x, 2, 0, 2);
        x.dead(2, true);
        Check.due("3 fails, 2 is dead", x.fails(3), 2);
        Check.row("0 and 1", x, 2, 0, 1);
        x.dead(0, true);
        Check.due("1 alone is left", x.fails(3), 2);
        Check.row("none for the first", x, 1, -1, 1);
        Check.due("the plan stays", x.plan(0, 2), false);
        Check.due("the plan stays", x.plan(1, 3), false);
    }

    private static void failsOfEight() {
        EnginesAsleep x = eightOf(0, 0, 0, 0, 0, 0, 0, 0);
        engines(x, 1, 1, 1, 1, 1, 1, 1, 1);
        plan(x, 7, 6, 5, 4, 3, 2, 1, 0);
        Check.due("3 of eight", x.fails(3), 1);
        Check.row("3 of eight", x, 7, 7, 6, 5, 4, -1, 2, 1, 0);
        engines(x, 1, 1, 1, 1);
        Check.due("3 of twelve", x.fails(3), 1);
        Check.row("3 of twelve", x, 8, 7, 6, 5, 4, 8, 2, 1, 0);
        Check.due("11 of twelve", x.fails(11), 0);
        Check.row("11 of twelve", x, 8, 7, 6, 5, 4, 3, 2, 1, 0);
        plan(x, -1, -1, -1, -1, -1, -1, -1, -1);
        Check.due("none planned", x.fails(0), 8);
        Check.row("none planned", x, 8, 1, 2, 3, 4, 5, 6, 7, 8);
        plan(x, 11, 10, 9, 8, 7, 6, 5, 4);
        for (int e = 4; e < 12; e++) {
            x.dead(e, true);
        }
        Check.due("all that are planned are dead", x.fails(1), 8);
        Check.row("all that are planned are dead", x, 3, -1, -1, -1, -1, -1, 0, 2, 3);
    }

    /** "NONE: none such." */
    private static void soonestOfOthers() {
        Busy.refused("soonest(-1)", x -> x.soonest(-1));
        Busy.refused("soonest(3) of three", x -> x.soonest(3));
        for (int v : WILD) {
            Busy.refused("soonest(" + v + ")", x -> x.soonest(v));
        }
    }

    /** "of equal ones the first" */
    private static void soonestOfEqualOnes() {
        EnginesAsleep x = classes(1, 1, 1);
        trains(x, 500);
        Check.due("all are on the road", x.soonest(0), 0);
        Check.row("0 minutes", x, 0);
        for (int e = 0; e < 3; e++) {
            x.light(e);
        }
        x.move(0, 8);
        x.move(2, 2);
        x.move(1, 5);
        x.move(1, 11);
        Check.due("one is on the road", x.soonest(0), 1);
        x.dead(1, true);
        // The table is at the road, 2 and 8 are three away.
        Check.due("0 and 2 are as near", x.soonest(0), 0);
        Check.row("0 and 2 are as near", x, 3 + 3 + 4);
    }

    /** "(0 minutes, if it is there)", though it is cold */
    private static void soonestOnTheRoad() {
        EnginesAsleep x = raises(0, 100);
        trains(x, 200, 99);
        x.light(0);
        x.move(0, 0);
        Check.due("a cold one on the road", x.soonest(0), 1);
        Check.row("a cold one on the road", x, 0);
        Check.due("it would not be in steam", x.soonest(1), 0);
        Check.row("one in a stall", x, 1 + 4);
    }

    /** "the soonest by free() from NOW" */
    private static void soonestByFree() {
        EnginesAsleep x = classes(1, 0, 1, 1);
        x.train(500, 1, 1);
        for (int e = 0; e < 4; e++) {
            x.light(e);
        }
        x.move(0, 0);
        x.move(1, 0);
        x.move(2, 3);
        x.move(3, 6);
        // The table is at 6: 0 by 1 aside: 6 + 1 + 4, then 1 + 1 + 4; 2: 3 + 4 + 4; 3: 0 + 5 + 4.
        Check.due("3", x.soonest(0), 3);
        Check.row("3", x, 9);
        x.dead(3, true);
        Check.due("2", x.soonest(0), 2);
        Check.row("2", x, 11);
        x.dead(2, true);
        Check.due("0", x.soonest(0), 0);
        Check.row("0", x, 17);
        x.dead(1, true);
        Check.due("the one in front of it is dead", x.soonest(0), -2);
        x.dead(1, false);
        x.drop(0);
        Check.due("it is cold", x.soonest(0), -2);
        Check.row("the row stays", x, 17);
    }

    /** "The ENGINE that FITS" */
    private static void soonestThatFits() {
        EnginesAsleep x = classes(0, 3, 1, 2);
        x.train(500, 2, 1);
        Check.due("0 and 2 are of a low class", x.soonest(0), 1);
        x.dead(1, true);
        Check.due("1 is dead", x.soonest(0), 3);
        x.dead(1, false);
        x.light(1);
        x.move(1, 0);
        Check.due("1 is in a stall", x.soonest(0), 3);
        Check.row("1 is in a stall", x, 0);
    }

    /** "-2: none can" */
    private static void soonestOfNone() {
        Busy.leaves("none fits", -2, () -> {
            EnginesAsleep x = Busy.made();
            x.train(0, 5, 1);
            x.inside(1);
            return x;
        }, x -> x.soonest(3));
        EnginesAsleep x = new EnginesAsleep();
        trains(x, 50);
        Check.due("no engines", x.soonest(0), -2);
    }

    /** 0 at the back and 1 at the front of stall 2, 2 and 3 likewise of stall 4. */
    private static EnginesAsleep twoPairs() {
        EnginesAsleep x = classes(1, 1, 1, 1);
        for (int e = 0; e < 4; e++) {
            x.light(e);
            x.move(e, e < 2 ? 2 : 4);
        }
        trains(x, 100, 101, 100, 99);
        return x;
    }

    /** "with one in FRONT that has no TRAIN" */
    private static void wrongWithNoTrain() {
        EnginesAsleep x = twoPairs();
        Check.due("none planned", x.wrong(), 0);
        plan(x, 0);
        Check.due("0", x.wrong(), 1);
        plan(x, 0, -1, 2);
        Check.due("0 and 2", x.wrong(), 5);
        Check.due("no engines", new EnginesAsleep().wrong(), 0);
    }

    /** "or one of a later MINUTE": one of the same MINUTE is not. */
    private static void wrongOfALaterMinute() {
        EnginesAsleep x = twoPairs();
        plan(x, 0, 1, -1, -1);
        Check.due("a minute later", x.wrong(), 1);
        plan(x, 0, -1, 1, -1);
        Check.due("the same minute", x.wrong(), 0);
        plan(x, 0, -1, -1, 1);
        Check.due("a minute earlier", x.wrong(), 0);
        plan(x, 1, -1, 0, -1);
        Check.due("the same minute, the other way round", x.wrong(), 0);
        plan(x, 1, 0, -1, -1);
        Check.due("a minute earlier, the other way round", x.wrong(), 0);
        plan(x, 2, 3, 0, 1);
        Check.due("2 is wrong, 0 is not", x.wrong(), 4);
        EnginesAsleep y = twoPairs();
        y.train(50, 0, 1);
        y.train(150, 0, 1);
        y.train(120, 0, 1);
        plan(y, -1, -1, -1, -1, 1, 0);
        Check.due("0 leaves behind the one in front", y.wrong(), 0);
        plan(y, -1, -1, -1, -1, -1, 1, 0);
        Check.due("0 leaves ahead of the one in front", y.wrong(), 1);
        plan(y, 1, -1, -1, -1, 0);
        Check.due("0 leaves ahead of the one in front, by another train", y.wrong(), 1);
    }

    /** "Planned ENGINES (bits) that stand at a BACK with one in FRONT" */
    private static void wrongOfPlannedOnesAtABack() {
        EnginesAsleep x = twoPairs();
        plan(x, 1);
        Check.due("the one in front", x.wrong(), 0);
        plan(x, 0);
        x.move(1, 11);
        Check.due("none in front", x.wrong(), 0);
        x.move(1, 2);
        Check.due("again one in front", x.wrong(), 1);
        plan(x, -1);
        Check.due("not planned", x.wrong(), 0);
        plan(x, 2, 0);
        x.dead(1, true);
        x.drop(3);
        Check.due("cold and dead ones in front", x.wrong(), 5);
    }

    /** "that sum": morning() as it is, if there is no way. */
    private static void exchangeOfNone() {
        EnginesAsleep x = raises(0, 50);
        x.light(0);
        x.move(0, 0);
        x.inside(0);
        Check.due("no trains", x.exchange(), 0);
        Check.row("no numbers", x);
        x.move(0, 11);
        trains(x, 20);
        plan(x, 1);
        x.inside(0);
        Check.due("one train", x.exchange(), x.count(2) + 50 - 20);
        Check.row("no numbers", x);
    }

    /** "(both planned ..)" */
    private static void exchangeBothPlanned() {
        EnginesAsleep x = raises(0, 50);
        trains(x, 20, 100);
        plan(x, 1, 0);
        Check.due("late", x.morning(), 30);
        Check.due("both", x.exchange(), 0);
        Check.row("both", x, 0, 1);
        Check.due("the plan stays", x.morning(), 30);
        plan(x, 1, -1);
        Check.due("the second has none", x.exchange(), 30);
        Check.row("the second has none", x);
        EnginesAsleep y = raises(0, 50);
        trains(y, 100, 20);
        plan(y, -1, 1);
        Check.due("the first has none", y.exchange(), 30);
        Check.row("the first has none", y);
    }

    /** "(.. each FITS the other's TRAIN)" */
    private static void exchangeEachFits() {
        EnginesAsleep x = new EnginesAsleep();
        x.engine(10, 1, 0, false);
        x.engine(10, 2, 50, false);
        x.train(20, 0, 1);
        x.train(100, 1, 1);
        x.train(100, 2, 1);
        x.train(49, 0, 1);
        plan(x, 1, 0);
        Check.due("each fits the other's", x.exchange(), 0);
        plan(x, 1, -1, 0);
        Check.due("0 is planned, but of too low a class itself", x.exchange(), 0);
        Check.row("it need not fit its own", x, 0, 2);
        plan(x, 1, -1, -1, 0);
        Check.due("1 would not be in steam for the other's", x.exchange(), 30);
        Check.row("1 would not be in steam for the other's", x);
        EnginesAsleep y = new EnginesAsleep();
        y.engine(10, 1, 0, false);
        y.engine(10, 2, 50, false);
        y.train(20, 2, 1);
        y.train(100, 1, 1);
        plan(y, 1, 0);
        Check.due("0 is of too low a class for the other's", y.exchange(), 30);
        Check.row("0 is of too low a class for the other's", y);
        EnginesAsleep z = raises(0, 50);
        trains(z, 20, 100);
        plan(z, 1, 0);
        z.dead(0, true);
        Check.due("0 is dead", z.exchange(), 30);
        Check.row("0 is dead", z);
    }

    /** THE PLAN is this: an engine can be planned for its own train once more, and for no other one. */
    private static void planned(String what, EnginesAsleep x, int... engines) {
        x.train(0, 0, 1);
        int spare = x.count(4) - 1;
        for (int t = 0; t < engines.length; t++) {
            if (engines[t] != -1) {
                Check.due(what + ": planned elsewhere", x.plan(spare, engines[t]), false);
                Check.due(what + ": planned for it", x.plan(t, engines[t]), true);
            }
        }
        x.morning();
        for (int t = 0; t < engines.length; t++) {
            Check.due(what + ": has one, train " + t, x.row(t) != -2, engines[t] != -1);
        }
    }

    /** "both TRAINS: of equal ones the least row" */
    private static void exchangeOfEqualOnes() {
        EnginesAsleep x = raises(0, 0, 50, 0);
        trains(x, 100, 100, 20, 100);
        plan(x, 0, 1, 2, 3);
        Check.due("with any of the others", x.exchange(), 0);
        Check.row("with the first", x, 0, 2);
        plan(x, -1, 1, 2, 3);
        x.exchange();
        Check.row("with the second", x, 1, 2);
        planned("with the second", x, -1, 1, 2, 3);
        plan(x, -1, -1, 2, 3);
        x.exchange();
        Check.row("with the last", x, 2, 3);
        planned("with the last", x, -1, -1, 2, 3);
        EnginesAsleep y = raises(0, 50, 40);
        trains(y, 30, 20, 100);
        plan(y, 2, 1, 0);
        Check.due("10 and 30 late", y.morning(), 40);
        Check.due("the least of two ways", y.exchange(), 10);
        Check.row("the least of two ways", y, 1, 2);
    }

    /** "none, if none is less than morning() as it is (that is told then)" */
    private static void exchangeNoneLess() {
        EnginesAsleep x = raises(0, 0, 50);
        trains(x, 100, 100, 20);
        plan(x, 0, 1, 2);
        x.dead(0, true);
        x.dead(1, true);
        Check.due("none fits", x.exchange(), 30);
        Check.row("none fits", x);
        x.dead(0, false);
        x.dead(1, false);
        plan(x, 0, 1, -1);
        x.most();
        Check.due("all are in time", x.exchange(), 0);
        Check.row("all are in time", x);
        EnginesAsleep y = raises(0, 0);
        y.pass(50);
        y.train(50, 0, 1);
        y.train(20, 0, 1);
        plan(y, 0, 1);
        Check.due("late either way", y.exchange(), 30);
        Check.row("late either way", y);
    }

    /** "rest minutes at least (0 .. 600)", "duty (1 .. 2000)", "NONE: others." */
    private static void crewsOfOthers() {
        Busy.refused("rest -1", x -> x.crews(-1, 2000));
        Busy.refused("rest 601", x -> x.crews(601, 2000));
        Busy.refused("duty 0", x -> x.crews(0, 0));
        Busy.refused("duty -1", x -> x.crews(0, -1));
        Busy.refused("duty 2001", x -> x.crews(0, 2001));
        Busy.refused("rest 601, duty too short for a train", x -> x.crews(601, 1));
        for (int v : WILD) {
            Busy.refused("rest " + v, x -> x.crews(v, 2000));
            Busy.refused("duty " + v, x -> x.crews(0, v));
        }
    }

    private static void crewsOfNone() {
        EnginesAsleep x = classes(1);
        x.light(0);
        x.move(0, 0);
        x.inside(0);
        Check.due("no trains", x.crews(0, 1), 0);
        Check.row("no trains", x);
        Check.due("no trains, the greatest", x.crews(600, 2000), 0);
        x.train(7, 0, 1);
        Check.due("one", x.crews(600, 1), 1);
        Check.row("one", x, 0);
    }

    /** "between two of one man's rest minutes at least": just as many do. */
    private static void crewsRestJustAsLong() {
        for (int rest : new int[] {0, 1, 30, 600}) {
            EnginesAsleep x = new EnginesAsleep();
            x.train(100, 0, 40);
            x.train(140 + rest, 0, 5);
            Check.due("just " + rest, x.crews(rest, 2000), 1);
            Check.row("just " + rest, x, 0, 0);
            if (rest < 600) {
                Check.due("a minute more than " + rest, x.crews(rest + 1, 2000), 2);
                Check.row("a minute more than " + rest, x, 0, 1);
            }
            EnginesAsleep y = new EnginesAsleep();
            y.train(139 + rest, 0, 5);
            y.train(100, 0, 40);
            Check.due("a minute less than " + rest, y.crews(rest, 2000), 2);
            Check.row("a minute less than " + rest, y, 0, 1);
        }
    }

    /** "from the first's MINUTE to the last's end a man is out for at most duty": just as many do. */
    private static void crewsOutJustAsLong() {
        EnginesAsleep x = new EnginesAsleep();
        x.train(200, 0, 50);
        x.train(100, 0, 40);
        x.train(150, 0, 30);
        Check.due("150 minutes", x.crews(0, 150), 1);
        Check.row("150 minutes", x, 0, 0, 0);
        Check.due("149 minutes", x.crews(0, 149), 2);
        Check.row("149 minutes", x, 0, 1, 0);
        Check.due("100 minutes", x.crews(0, 100), 2);
        Check.row("100 minutes", x, 0, 1, 0);
        Check.due("99 minutes", x.crews(0, 99), 2);
        Check.row("99 minutes", x, 0, 1, 1);
        Check.due("80 minutes", x.crews(0, 80), 2);
        Check.due("79 minutes", x.crews(0, 79), 3);
        Check.row("79 minutes", x, 0, 1, 2);
        EnginesAsleep y = new EnginesAsleep();
        y.train(0, 0, 1);
        y.train(1999, 0, 1);
        Check.due("2000 minutes", y.crews(0, 2000), 1);
        Check.due("1999 minutes", y.crews(0, 1999), 2);
        y.train(2000, 0, 1);
        Check.due("2001 minutes", y.crews(0, 2000), 2);
        Check.row("2001 minutes", y, 0, 0, 1);
    }

    /** "-2: one TRAIN alone is longer than that" */
    private static void crewsOneAloneTooLong() {
        Busy.leaves("99 for 100", -2, Busy::made, x -> x.crews(0, 99));
        EnginesAsleep x = new EnginesAsleep();
        x.train(100, 0, 50);
        x.train(0, 0, 20);
        Check.due("50 for 50", x.crews(0, 50), 2);
        Check.due("49 for 50", x.crews(0, 49), -2);
        Check.row("the row stays", x, 0, 1);
        EnginesAsleep z = new EnginesAsleep();
        z.train(100, 0, 20);
        z.train(200, 0, 30);
        z.train(300, 0, 51);
        Check.due("50 for 51, the last one", z.crews(0, 50), -2);
        Check.due("51 for 51, the last one", z.crews(0, 51), 3);
        EnginesAsleep y = new EnginesAsleep();
        y.train(0, 0, 600);
        Check.due("600 for 600", y.crews(0, 600), 1);
        Check.due("599 for 600", y.crews(600, 599), -2);
        Check.due("1 for 600", y.crews(0, 1), -2);
    }

    private static void crewsAtTheSameMinute() {
        EnginesAsleep x = new EnginesAsleep();
        for (int t = 0; t < 4; t++) {
            x.train(100, 0, 1);
            Check.due("at the same minute", x.crews(0, 2000), t + 1);
        }
        Check.row("each its own man", x, 0, 1, 2, 3);
        x.train(101, 0, 1);
        Check.due("a minute later", x.crews(0, 2000), 4);
        Check.row("the first man again", x, 0, 1, 2, 3, 0);
        Check.due("a minute of rest", x.crews(1, 2000), 5);
        Check.row("a minute of rest", x, 0, 1, 2, 3, 4);
    }

    /** "of each TRAIN its man, numbered as they come: of equal ones the least row" */
    private static void crewsOfEqualOnes() {
        EnginesAsleep x = new EnginesAsleep();
        x.train(300, 0, 10);
        x.train(100, 0, 10);
        x.train(105, 0, 10);
        x.train(200, 0, 10);
        x.train(200, 0, 10);
        Check.due("two men", x.crews(0, 2000), 2);
        Check.row("two men", x, 0, 0, 1, 0, 1);
        Check.due("they rest", x.crews(85, 2000), 2);
        Check.row("they rest", x, 0, 0, 1, 0, 1);
        Check.due("86 from 115 to 200 are too many", x.crews(86, 2000), 3);
        Check.row("86 from 115 to 200 are too many", x, 0, 0, 1, 0, 2);
    }

    /** A man who could have a TRAIN does not have it, if fewer do so. */
    private static void crewsNotTheFirstThatGoes() {
        EnginesAsleep x = new EnginesAsleep();
        x.train(0, 0, 10);
        x.train(20, 0, 10);
        x.train(15, 0, 10);
        x.train(5, 0, 11);
        Check.due("two men", x.crews(0, 2000), 2);
        Check.row("the second is not the first man's", x, 0, 1, 0, 1);
        x.train(40, 0, 1);
        x.train(40, 0, 1);
        Check.due("two men for six", x.crews(0, 2000), 2);
        Check.row("two men for six", x, 0, 1, 0, 1, 0, 1);
        x.train(40, 0, 1);
        Check.due("three men for seven", x.crews(0, 2000), 3);
        Check.row("three men for seven", x, 0, 0, 1, 2, 0, 1, 2);
    }

    private static void crewsOfEight() {
        EnginesAsleep x = new EnginesAsleep();
        for (int t = 0; t < 8; t++) {
            x.train(10 * t, 0, 100);
        }
        Check.due("eight men", x.crews(0, 2000), 8);
        Check.row("eight men", x, 0, 1, 2, 3, 4, 5, 6, 7);
        EnginesAsleep y = new EnginesAsleep();
        for (int t = 7; t >= 0; t--) {
            y.train(10 * t, 0, 10);
        }
        Check.due("one man for eight", y.crews(0, 80), 1);
        Check.row("one man for eight", y, 0, 0, 0, 0, 0, 0, 0, 0);
        Check.due("two men for eight", y.crews(0, 79), 2);
        Check.row("two men for eight", y, 0, 0, 0, 0, 0, 0, 0, 1);
        Check.due("they rest", y.crews(10, 2000), 2);
        Check.row("they rest", y, 0, 1, 0, 1, 0, 1, 0, 1);
    }

    /** "THE PLAN stays.", and all else. */
    private static void onlyAsk() {
        Busy.onlyAsks("most", EnginesAsleep::most);
        for (int e = 0; e < 5; e++) {
            int engine = e;
            Busy.onlyAsks("fails(" + e + ")", x -> x.fails(engine));
        }
        for (int t = 0; t < 3; t++) {
            int train = t;
            Busy.onlyAsks("soonest(" + t + ")", x -> x.soonest(train));
        }
        Busy.onlyAsks("wrong", EnginesAsleep::wrong);
        Busy.onlyAsks("exchange", EnginesAsleep::exchange);
        Busy.onlyAsks("crews", x -> x.crews(10, 150));
        Busy.leaves("wrong() tells no row", 1, Busy::made, EnginesAsleep::wrong);
        Busy.leaves("fits() tells no row", 1, Busy::made, x -> x.fits(0, 0));
    }
}
