/** Promises 47 and 48, sentence by sentence: the morning gone through, and why a train is late. */
public final class MorningEdgesTest {
    private static final int[] WILD = {Integer.MIN_VALUE, Integer.MIN_VALUE + 1, -1000, 1000, 1 << 30, Integer.MAX_VALUE};

    public static void main(String[] args) {
        noTrains();
        notPlanned();
        litNow();
        litOnesAsTheyAre();
        theOneInFrontIsLitNow();
        byMinuteThenNumber();
        tableFreeNow();
        tableFreeWhenTheOneAheadIsDone();
        tableNotForTheRoad();
        beginsAtTheLater();
        notAheadOfNow();
        asFreeSays();
        asideAheadOfAnother();
        asideAndPlannedToo();
        asideToTheRoad();
        asTheRuleSaysThen();
        onTheRoad();
        lateByNothing();
        itIsDead();
        theOneInFrontIsDead();
        allStays();
        sums();
        eightTrains();
        whyOfOthers();
        whyWithoutEngine();
        whyNotLate();
        whyItCannotGo();
        whyTheTable();
        whySteam();
        whyTheOneInFront();
        whyNoneInFront();
        whyOnTheRoad();
        whyTheFirstOfEqualOnes();
        whyNothingBelowNothing();
        onlyAsk();
        Check.end();
    }

    /** Engines 10 long, raise 0, lit at 0, each moved to its stall (11: it stays on the road), TURN 1, GO 2. */
    private static EnginesAsleep standing(int... stalls) {
        EnginesAsleep x = new EnginesAsleep();
        for (int e = 0; e < stalls.length; e++) {
            x.engine(10, 1, 0, false);
            x.light(e);
            if (stalls[e] < 11) {
                x.move(e, stalls[e]);
            }
        }
        return x;
    }

    private static void trains(EnginesAsleep x, int... minutes) {
        for (int m : minutes) {
            x.train(m, 0, 10);
        }
    }

    private static void plan(EnginesAsleep x, int... engines) {
        for (int t = 0; t < engines.length; t++) {
            x.plan(t, -1);
        }
        for (int t = 0; t < engines.length; t++) {
            x.plan(t, engines[t]);
        }
    }

    private static void morning(String what, EnginesAsleep x, int sum, int... late) {
        Check.due(what, x.morning(), sum);
        Check.row(what, x, late);
    }

    private static void why(String what, EnginesAsleep x, int train, int want, int... row) {
        Check.due(what, x.why(train), want);
        Check.row(what, x, row);
    }

    private static void noTrains() {
        EnginesAsleep x = standing(5);
        x.inside(5);
        morning("no trains", x, 0);
        morning("no engines, no trains", new EnginesAsleep(), 0);
    }

    /** "(those without are left out)", "(-2 for one without ENGINE)" */
    private static void notPlanned() {
        EnginesAsleep x = standing(5, 11);
        trains(x, 0, 0, 0);
        morning("none planned", x, 0, -2, -2, -2);
        plan(x, -1, 1, -1);
        morning("one planned", x, 10, -2, 10, -2);
        plan(x, -1, -1, -1);
        morning("none planned again", x, 0, -2, -2, -2);
    }

    /** "all that is not LIT and planned .. is LIT NOW", and only for this morning */
    private static void litNow() {
        EnginesAsleep x = new EnginesAsleep();
        x.engine(10, 1, 30, false);
        x.pass(7);
        trains(x, 36, 37, 38);
        plan(x, 0);
        morning("a minute late", x, 1, 1, -2, -2);
        plan(x, -1, 0);
        morning("just in time", x, 0, -2, 0, -2);
        plan(x, -1, -1, 0);
        morning("a minute early", x, 0, -2, -2, 0);
        Check.due("it is not lit behind it", x.of(0, 3), -1);
    }

    /** Those that are LIT keep their MINUTE. */
    private static void litOnesAsTheyAre() {
        EnginesAsleep x = new EnginesAsleep();
        x.engine(10, 1, 30, false);
        x.light(0);
        trains(x, 20, 20);
        plan(x, 0);
        x.pass(10);
        morning("lit at 0", x, 10, 10, -2);
        x.pass(15);
        morning("lit at 0, NOW 25", x, 10, 10, -2);
        x.drop(0);
        morning("lit anew at 25", x, 35, 35, -2);
    }

    /** 1 (raise 60) in front of 0 (raise 20) in stall 5, both cold; NOW 52, the table there. */
    private static EnginesAsleep coldPair() {
        EnginesAsleep x = new EnginesAsleep();
        x.engine(10, 1, 20, false);
        x.engine(10, 1, 60, false);
        x.engine(10, 1, 0, false);
        x.light(2);
        x.drag(0, 2, 5);
        x.drag(1, 2, 5);
        return x;
    }

    /** "or stands in FRONT of one planned, is LIT NOW" */
    private static void theOneInFrontIsLitNow() {
        EnginesAsleep x = coldPair();
        Check.due("NOW", x.count(2), 52);
        trains(x, 100);
        plan(x, 0);
        // In steam at 72 and 112; aside 5, out 12.
        morning("the one in front is in steam at 112", x, 112 + 5 + 11 - 100, 28);
        x.light(1);
        x.pass(10);
        morning("it is lit at 52", x, 28, 28);
        x.light(0);
        morning("both are lit", x, 28, 28);
        x.drop(1);
        morning("it is lit at 62", x, 38, 38);
        x.drag(1, 2, 11);
        // NOW 62 + 2 * 10; 0 is in steam at 82, the table at the road.
        Check.due("NOW then", x.count(2), 82);
        morning("none in front", x, 0, 0);
    }

    /** "then TRAINS by MINUTE (of equal ones by number)" */
    private static void byMinuteThenNumber() {
        EnginesAsleep x = standing(0, 0 + 1, 10, 9);
        // 5, then 1 + 2 + 4, 2 + 1 + 4, 1 + 2 + 4: NOW 26, the table at 9.
        Check.due("NOW", x.count(2), 26);
        trains(x, 29, 28, 27, 26);
        plan(x, 0, 1, 2, 3);
        // 3: 26 + 0 + 2 + 4 = 32; 2: 38; 1: 38 + 2 + 2 + 4 = 46; 0: 52.
        morning("by minute", x, 6 + 11 + 18 + 23, 23, 18, 11, 6);
        EnginesAsleep y = standing(0, 1, 10, 9);
        trains(y, 26, 26, 26, 26);
        plan(y, 3, 1, 2, 0);
        // 3: 32; 1: 40; 2: 46; 0: 52.
        morning("by number", y, 6 + 14 + 20 + 26, 6, 14, 20, 26);
        EnginesAsleep z = standing(0, 1, 10, 9);
        trains(z, 27, 26, 27, 26);
        plan(z, 3, 1, 2, 0);
        // 1: 26 + 4 + 2 + 4 = 36; 0: 42; 3: 50; 2: 56.
        morning("by minute, then by number", z, 23 + 10 + 29 + 16, 23, 10, 29, 16);
    }

    /** "THE TABLE is free for the first one NOW": it stands where it stands. */
    private static void tableFreeNow() {
        EnginesAsleep x = standing(5, 2);
        // 10, then 6 + 3 + 4: NOW 23, the table at 2.
        trains(x, 23);
        plan(x, 0);
        morning("the table comes from 2", x, 3 + 6 + 4, 13);
        plan(x, 1);
        morning("the table is there", x, 3 + 4, 7);
        x.set(0, 3);
        x.set(1, 5);
        morning("TURN 3, GO 5", x, 3 * 3 + 10, 19);
    }

    /** "for another one when the one ahead that needed it is done" */
    private static void tableFreeWhenTheOneAheadIsDone() {
        EnginesAsleep x = standing(5, 2);
        x.engine(10, 1, 100, false);
        trains(x, 23, 24);
        plan(x, 0, 1);
        // 0: 36; 1: 36 + 3 + 3 + 4.
        morning("one behind the other", x, 13 + 22, 13, 22);
        x.pass(10);
        morning("ten minutes later", x, 23 + 32, 23, 32);
        EnginesAsleep y = coldPair();
        y.drag(1, 2, 0);
        // NOW 52 + 2 * (0 + 5 + 4): 1 in 0, 0 in 5, both cold.
        Check.due("NOW", y.count(2), 70);
        trains(y, 80, 90);
        plan(y, 1, 0);
        // 1: in steam at 130, out at 130 + 0 + 1 + 4; 0: in steam at 90, but the table is free at 135: 151.
        morning("the one ahead waits for steam", y, 55 + 61, 55, 61);
        plan(y, 0, 1);
        // 0: 90 + 5 + 6 + 4 = 105; 1: 130 + 1 + 1 + 4.
        morning("the one behind waits for steam", y, 25 + 46, 25, 46);
    }

    /** "One on THE ROAD .. needs no TABLE" */
    private static void tableNotForTheRoad() {
        EnginesAsleep x = standing(5, 2, 11);
        x.engine(10, 1, 300, false);
        trains(x, 23, 24, 25, 23);
        plan(x, 3, 0, 1, 2);
        // 3 is done at 323 and 2 at 23; 0 begins at 23 all the same: 36; 1: 46.
        morning("two on the road ahead", x, 300 + 12 + 21, 300, 12, 21, 0);
    }

    /** "One in a STALL begins at the later of that and when its ENGINE, and the one in FRONT, .. are IN STEAM" */
    private static void beginsAtTheLater() {
        EnginesAsleep x = coldPair();
        trains(x, 52, 52);
        plan(x, 0);
        morning("the one in front is the later", x, 60 + 16, 76, -2);
        x.light(1);
        x.pass(60);
        // NOW 112: 1 is in steam, 0 is lit then, in steam at 132.
        morning("its engine is the later", x, 132 + 16 - 52, 96, -2);
        x.light(0);
        x.pass(20);
        morning("NOW is the later", x, 132 + 16 - 52, 96, -2);
        plan(x, 0, 1);
        // 1 goes from where it went, 4: 148 + 5 + 5 + 4.
        morning("the table is the later", x, 96 + 110, 96, 110);
    }

    /** "(NOW at least)" */
    private static void notAheadOfNow() {
        EnginesAsleep x = standing(5);
        trains(x, 0);
        plan(x, 0);
        Check.due("NOW", x.count(2), 10);
        morning("from NOW, not from 0", x, 20, 20);
        x.pass(30);
        morning("from NOW, later", x, 50, 50);
    }

    /** "as free() says, at that MINUTE, the one in FRONT goes aside, and it goes to THE ROAD; it is done then" */
    private static void asFreeSays() {
        EnginesAsleep x = standing(5, 5);
        trains(x, 26);
        plan(x, 0);
        int[] order = {4, 6, 3, 7};
        for (int i = 0; i < order.length; i++) {
            int minutes = x.free(0);
            morning("as free() says", x, minutes, minutes);
            x.shut(order[i], true);
        }
        x.set(1, 0);
        morning("GO 0", x, 2 * 3 + 6, 12);
        x.set(0, 2);
        morning("TURN 2, GO 0", x, 2 * 12, 24);
    }

    /** One that went aside stands where it went, for those that come later too. */
    private static void asideAheadOfAnother() {
        EnginesAsleep x = standing(5, 5, 4);
        // 10, 6 + 6 + 4, 6 + 5 + 4: NOW 41, the table at 4.
        Check.due("NOW", x.count(2), 41);
        trains(x, 41, 41);
        plan(x, 0, 2);
        // 1 to the front of 4: 1 + 1 + 4, 0: 1 + 6 + 4: 58; then 1 from there to 3: 5 + 1 + 4, 2: 1 + 5 + 4: 78.
        morning("1 is in front of 2 then", x, 17 + 37, 17, 37);
        x.stall(4, 19, 3);
        // 1 to 6: 1 + 1 + 4, 0: 1 + 6 + 4: 58; 2: 5 + 5 + 4: 72.
        morning("4 is too short for both", x, 17 + 31, 17, 31);
        plan(x, 2, 0);
        // 2: 0 + 5 + 4: 50; 1 to 4, which is empty: 6 + 1 + 4, 0: 1 + 6 + 4: 72.
        morning("2 first", x, 9 + 31, 9, 31);
    }

    private static void asideAndPlannedToo() {
        EnginesAsleep x = standing(5, 5);
        trains(x, 26, 27);
        plan(x, 0, 1);
        // 0: 26 + 5 + 11 = 42; 1 from 4: 42 + 5 + 5 + 4 = 56.
        morning("from where it went", x, 16 + 29, 16, 29);
        plan(x, 1, 0);
        // 1: 36; 0: 36 + 6 + 6 + 4 = 52.
        morning("the front one first", x, 10 + 25, 10, 25);
    }

    private static void asideToTheRoad() {
        EnginesAsleep x = standing(5, 5);
        for (int s = 0; s < 11; s++) {
            x.shut(s, true);
        }
        trains(x, 26, 27);
        plan(x, 0, 1);
        // 1 to the road: 36, 0: 52; 1 is on the road then and in steam since long.
        morning("it needs no table any more", x, 26, 26, 0);
        why("it is not late", x, 1, 0, 26, 0);
        why("the table, as there is an aside of ten", x, 0, 1, 16, 16, 10);
    }

    /** The letter s of THE RULE is asked at that MINUTE. */
    private static void asTheRuleSaysThen() {
        EnginesAsleep x = coldPair();
        trains(x, 112);
        plan(x, 0);
        Check.rule(x, "s");
        Check.due("not now", x.takes(4, 1), 0);
        morning("in steam then", x, 16, 16);
        Check.rule(x, "!s");
        // To the road: 6 + 4, then 6 + 6 + 4.
        morning("cold ones alone may be there", x, 26, 26);
    }

    /** "One on THE ROAD is done as soon as it is IN STEAM (NOW at least)" */
    private static void onTheRoad() {
        EnginesAsleep x = new EnginesAsleep();
        x.engine(10, 1, 30, false);
        trains(x, 10);
        plan(x, 0);
        morning("lit now", x, 20, 20);
        x.light(0);
        x.pass(29);
        morning("a minute is left", x, 20, 20);
        x.pass(1);
        morning("just in steam", x, 20, 20);
        x.pass(1);
        morning("NOW is later", x, 21, 21);
        EnginesAsleep y = standing(11);
        trains(y, 0, 1);
        plan(y, 0);
        morning("raise 0 at 0", y, 0, 0, -2);
    }

    /** "LATE: how much that is behind its MINUTE (0 at least)" */
    private static void lateByNothing() {
        EnginesAsleep x = standing(5);
        trains(x, 19, 20, 21, 2000);
        int[] late = {1, 0, 0, 0};
        for (int t = 0; t < 4; t++) {
            plan(x, -1, -1, -1, -1);
            x.plan(t, 0);
            Check.due("done at 20, train " + t, x.morning(), late[t]);
            Check.due("its late", x.row(t), late[t]);
        }
    }

    /** "If it can't (it is DEAD ..): .. LATE is NONE." */
    private static void itIsDead() {
        EnginesAsleep x = standing(5, 11);
        trains(x, 0, 500);
        plan(x, 0, 1);
        x.dead(0, true);
        x.dead(1, true);
        morning("one in a stall, one on the road", x, 0, -1, -1);
        x.dead(1, false);
        morning("one in a stall", x, 0, -1, 0);
        x.dead(1, true);
        x.dead(0, false);
        morning("one on the road", x, 20, 20, -1);
        x.drop(1);
        morning("cold and dead", x, 20, 20, -1);
    }

    /** "(.. or the one in FRONT is ..)" */
    private static void theOneInFrontIsDead() {
        EnginesAsleep x = standing(5, 5);
        trains(x, 26, 26);
        plan(x, 0);
        x.dead(1, true);
        morning("the one in front is dead", x, 0, -1, -2);
        plan(x, 1, 0);
        morning("both can't", x, 0, -1, -1);
        x.dead(1, false);
        x.dead(0, true);
        morning("the back one is dead", x, 10, 10, -1);
        plan(x, 0, 1);
        morning("the back one is dead and first", x, 10, -1, 10);
    }

    /** "all stays": the table, its minutes, who stands where. */
    private static void allStays() {
        EnginesAsleep x = standing(5, 5, 2);
        x.engine(10, 1, 200, false);
        // 26, then 6 + 3 + 4: NOW 39, the table at 2.
        trains(x, 39, 40, 41);
        plan(x, 0, 2);
        x.dead(1, true);
        morning("2 as if it were first", x, 39 + 3 + 4 - 40, -1, 6, -2);
        plan(x, 0, 2, 1);
        morning("1 can't either", x, 6, -1, 6, -1);
        x.dead(1, false);
        x.dead(0, true);
        // 2: 46; 1: 46 + 6 + 6 + 4.
        morning("1 is in front yet", x, 6 + 21, -1, 6, 21);
        EnginesAsleep y = coldPair();
        y.drag(2, 2, 0);
        y.engine(10, 1, 0, false);
        y.light(2);
        y.light(3);
        y.move(3, 0);
        // 6 + 1 + 4: NOW 63; 1 would be in steam at 123, but it is dead.
        y.dead(1, true);
        trains(y, 63, 64);
        plan(y, 0, 3);
        morning("nobody waits for its steam", y, 63 + 1 + 4 - 64, -1, 4);
    }

    /** "The sum of LATES (NONE counts 0)", nor does -2 count. */
    private static void sums() {
        EnginesAsleep x = standing(11, 11, 11);
        trains(x, 1, 2, 3, 4);
        plan(x, 0, 1, 2, -1);
        x.pass(10);
        morning("three", x, 9 + 8 + 7, 9, 8, 7, -2);
        x.dead(1, true);
        morning("one is dead", x, 9 + 7, 9, -1, 7, -2);
        x.dead(0, true);
        x.dead(2, true);
        morning("all are dead", x, 0, -1, -1, -1, -2);
    }

    private static void eightTrains() {
        EnginesAsleep x = standing(0, 1, 2, 3, 4, 5, 6, 7, 8, 9, 10, 11);
        int now = x.count(2);
        for (int t = 0; t < 8; t++) {
            x.train(2000 - t, 0, 1);
            x.plan(t, 11 - t);
        }
        morning("all are in time", x, 0, 0, 0, 0, 0, 0, 0, 0, 0);
        for (int i = 0; i < 3; i++) {
            x.pass(600);
        }
        x.pass(2000 - now - 1800 - 1);
        Check.due("NOW", x.count(2), 1999);
        // Trains 7 to 1, of 1993 to 1999, have engines 4 to 10 in stalls 4 to 10; train 0 has 11, on the road. The table is at 10.
        int[] out = {5, 6, 5, 4, 3, 2, 1};
        int[] late = new int[8];
        int at = 1999;
        int sum = 0;
        for (int i = 0; i < 7; i++) {
            at += (i == 0 ? 6 : out[i]) + out[i] + 4;
            late[7 - i] = at - (1993 + i);
            sum += late[7 - i];
        }
        morning("one behind the other", x, sum, late);
    }

    /** "NONE: none such." */
    private static void whyOfOthers() {
        Busy.refused("why(-1)", x -> x.why(-1));
        Busy.refused("why(3) of three", x -> x.why(3));
        for (int v : WILD) {
            Busy.refused("why(" + v + ")", x -> x.why(v));
        }
    }

    /** "-2: it has no ENGINE", "(the ROW stays ..)" */
    private static void whyWithoutEngine() {
        Busy.leaves("train 2 has none", -2, Busy::made, x -> x.why(2));
        EnginesAsleep x = standing(5);
        trains(x, 0);
        x.inside(5);
        why("none planned", x, 0, -2, 0);
    }

    /** "0: it is not LATE (the ROW stays, as it does for all others)" */
    private static void whyNotLate() {
        Busy.leaves("in time", 0, Busy::made, x -> x.why(0));
        EnginesAsleep x = standing(5, 11);
        trains(x, 20, 19, 0);
        x.inside(5);
        plan(x, 0);
        why("just in time", x, 0, 0, 0);
        plan(x, -1, 0);
        why("a minute late", x, 1, 1, 1, 1, 0);
        plan(x, 1);
        x.inside(5);
        why("on the road, in time", x, 0, 0, 0);
    }

    /** "5: it can't go" */
    private static void whyItCannotGo() {
        EnginesAsleep x = standing(5, 5, 11);
        trains(x, 2000, 0, 0);
        plan(x, 0, 2);
        x.inside(5);
        x.dead(1, true);
        why("the one in front is dead", x, 0, 5, 0, 1);
        x.dead(1, false);
        x.dead(0, true);
        why("it is dead", x, 0, 5, 0, 1);
        x.dead(2, true);
        why("it is dead on the road", x, 1, 5, 0, 1);
        x.dead(0, false);
        why("it is dead on the road, the train ahead is in time", x, 1, 5, 0, 1);
    }

    /** "1: by how much THE TABLE is free for it later than that" */
    private static void whyTheTable() {
        EnginesAsleep x = standing(5, 2, 8);
        // 10, 6 + 3 + 4, 3 + 3 + 4: the table at 8.
        Check.due("NOW", x.count(2), 10 + 13 + 10);
        trains(x, 30, 30, 60);
        plan(x, 0, 1, 2);
        // 0: 33 + 3 + 6 + 4 = 46; 1: 46 + 3 + 3 + 4 = 56; 2: 66.
        morning("three", x, 16 + 26 + 6, 16, 26, 6);
        why("0 ought to begin at 17", x, 0, 1, 16, 16, 0);
        why("1 ought to begin at 20", x, 1, 1, 26, 13, 0);
        why("2 ought to begin at 50", x, 2, 1, 6, 0, 0);
    }

    /** "2: by how much it, and the one in FRONT, are IN STEAM later than that" */
    private static void whySteam() {
        EnginesAsleep x = coldPair();
        trains(x, 100);
        plan(x, 0);
        // 1 is in steam at 112; 0 ought to begin at 100 - 11.
        why("the one in front", x, 0, 2, 0, 23, 5);
        x.light(1);
        x.pass(50);
        // NOW 102: 0 is in steam at 122.
        why("it itself", x, 0, 2, 102 - 89, 33, 5);
        EnginesAsleep z = coldPair();
        trains(z, 0, 100);
        plan(z, -1, 0);
        why("another train has none", z, 1, 2, 0, 23, 5);
        EnginesAsleep y = coldPair();
        y.drag(1, 2, 0);
        trains(y, 95);
        plan(y, 0);
        // NOW 70: in steam at 90; 5 + 6 + 4 from stall 5 with the table at 0: it ought to begin at 80.
        why("alone", y, 0, 2, 0, 10, 0);
    }

    /** "3: the minutes in which the one in FRONT goes aside" */
    private static void whyTheOneInFront() {
        EnginesAsleep x = standing(5, 5);
        trains(x, 41);
        plan(x, 0);
        // NOW 26: aside 5, its own 11: it ought to begin at 30.
        why("it would be in time but for the one in front", x, 0, 3, 0, 0, 5);
        x.shut(4, true);
        x.shut(6, true);
        // Aside 6, its own 12: it ought to begin at 29.
        why("two away", x, 0, 3, 0, 0, 6);
        x.set(1, 9);
        x.set(0, 2);
        // Aside 4 + 18, its own 4 + 12 + 18: it ought to begin at 7.
        why("GO 9, TURN 2", x, 0, 3, 19, 19, 22);
    }

    /** Another TRAIN's one in FRONT is none of its own. */
    private static void whyNoneInFront() {
        EnginesAsleep x = standing(5, 5, 2);
        // 26, then 6 + 3 + 4: NOW 39, the table at 2.
        trains(x, 39, 40);
        plan(x, 0, 2);
        // 1 aside to 4: 3 + 1 + 4, 0: 1 + 6 + 4: 58; 2: 58 + 3 + 3 + 4 = 68, it ought to begin at 30.
        morning("one of two has one in front", x, 19 + 28, 19, 28);
        why("it has one in front", x, 0, 1, 11, 11, 8);
        why("it has none in front", x, 1, 1, 28, 9, 0);
    }

    /** "(0 on THE ROAD)", "1 is 0 on THE ROAD" */
    private static void whyOnTheRoad() {
        EnginesAsleep x = standing(5, 11);
        x.engine(10, 1, 30, false);
        trains(x, 10, 15, 0);
        plan(x, 0, 2);
        // NOW 10: 0 is done at 20, 2 is in steam at 40.
        why("its steam, not the table", x, 1, 2, 0, 25, 0);
        plan(x, 0, 2, 1);
        why("in steam, but NOW is later", x, 2, 2, 0, 10, 0);
        plan(x, -1, -1, 0);
        why("one in a stall for the same train", x, 2, 1, 20, 20, 0);
        plan(x, -1, -1, 1);
        why("on the road behind it", x, 2, 2, 0, 10, 0);
        EnginesAsleep y = standing(5, 5, 11);
        trains(y, 0);
        plan(y, 0);
        why("one in front", y, 0, 1, 26 + 11, 26 + 11, 5);
        plan(y, 2);
        why("on the road, none in front", y, 0, 2, 0, 26, 0);
    }

    /** "the greatest of these three; of equal ones the first" */
    private static void whyTheFirstOfEqualOnes() {
        EnginesAsleep x = standing(5, 5);
        trains(x, 32);
        plan(x, 0);
        // NOW 26: it ought to begin at 21; aside 5.
        why("all three", x, 0, 1, 5, 5, 5);
        EnginesAsleep y = standing(5);
        trains(y, 0);
        plan(y, 0);
        why("the first two", y, 0, 1, 20, 20, 0);
        EnginesAsleep z = coldPair();
        trains(z, 118);
        plan(z, 0);
        // In steam at 112, it ought to begin at 107.
        why("the last two", z, 0, 2, 0, 5, 5);
        EnginesAsleep u = standing(5, 2, 2);
        // 10, 6 + 3 + 4, 3 + 3 + 4: NOW 33, the table at 2.
        trains(u, 46, 54);
        plan(u, 0, 1);
        // 0: 33 + 3 + 6 + 4 = 46. 1: 2 aside to 1: 3 + 1 + 4, its own 1 + 3 + 4: ought to begin at 46.
        why("only the last", u, 1, 3, 0, 0, 8);
        plan(u, 0, -1);
        u.train(46, 0, 1);
        plan(u, 0, -1, 1);
        // It ought to begin at 38.
        why("the first and the last", u, 2, 1, 8, 0, 8);
    }

    /** "(each 0 at least ..)" */
    private static void whyNothingBelowNothing() {
        EnginesAsleep x = standing(5, 5);
        trains(x, 41);
        plan(x, 0);
        why("table and steam are early by 4", x, 0, 3, 0, 0, 5);
        EnginesAsleep y = coldPair();
        y.light(1);
        y.light(0);
        y.pass(58);
        trains(y, 125);
        plan(y, 0);
        // NOW 110, in steam at 112: done at 128; it ought to begin at 114.
        why("steam is early by 2, the table by 4", y, 0, 3, 0, 0, 5);
    }

    /** "nothing is changed behind it" */
    private static void onlyAsk() {
        Busy.onlyAsks("morning", EnginesAsleep::morning);
        for (int t = 0; t < 3; t++) {
            int train = t;
            Busy.onlyAsks("why(" + t + ")", x -> x.why(train));
        }
        Busy.onlyAsks("a morning with a cold one", x -> {
            x.plan(2, 3);
            int sum = x.morning() + x.why(2) + x.exchange();
            x.plan(2, -1);
            return sum;
        });
    }
}
