/** Promises 44 to 46, sentence by sentence: fires, men, and the frost. */
public final class FiresEdgesTest {
    private static final int[] WILD = {Integer.MIN_VALUE, Integer.MIN_VALUE + 1, -1000, 1000, 1 << 30, Integer.MAX_VALUE};

    public static void main(String[] args) {
        firesOfOthers();
        firesToItsEnds();
        firesOfNone();
        firesOfPlannedOnes();
        firesThatAreNotLit();
        firesLitAsHeEnds();
        firesBelowNow();
        firesFromTheLastOn();
        firesOfEqualOnes();
        firesOfManyMen();
        firesOfTheManFreeTheLatest();
        menOfOthers();
        menOfNoneToLight();
        menNotAheadOfNow();
        menThatDoNot();
        frostOfOthers();
        frostOfNone();
        frostAtMostSoFar();
        frostBehindTheLast();
        frostInOneStall();
        frostLitOrNot();
        frostOfEqualOnes();
        frostOfTwelve();
        onlyAsk();
        Check.end();
    }

    /** Engine i, of this raise, is planned for train i, of this minute. */
    private static EnginesAsleep planned(int[] minutes, int[] raises) {
        EnginesAsleep x = new EnginesAsleep();
        for (int i = 0; i < minutes.length; i++) {
            x.engine(10, 1, raises[i], false);
            x.train(minutes[i], 0, 1);
            x.plan(i, i);
        }
        return x;
    }

    private static EnginesAsleep oneAt(int minute, int raise) {
        return planned(new int[] {minute}, new int[] {raise});
    }

    /** "w minutes (1 .. 120)", "k men (1 .. 6)", "-5001: others." */
    private static void firesOfOthers() {
        int[] badW = {0, -1, 121};
        int[] badK = {0, -1, 7};
        for (int w : badW) {
            Busy.leaves("w " + w, -5001, Busy::made, x -> x.fires(w, 1));
            Check.due("w " + w + ", none to light", new EnginesAsleep().fires(w, 1), -5001);
            Check.due("w " + w + ", one to light", oneAt(100, 10).fires(w, 1), -5001);
        }
        for (int k : badK) {
            Busy.leaves("k " + k, -5001, Busy::made, x -> x.fires(1, k));
            Check.due("k " + k + ", none to light", new EnginesAsleep().fires(1, k), -5001);
            Check.due("k " + k + ", one to light", oneAt(100, 10).fires(1, k), -5001);
        }
        for (int v : WILD) {
            Busy.leaves("w " + v, -5001, Busy::made, x -> x.fires(v, 1));
            Busy.leaves("k " + v, -5001, Busy::made, x -> x.fires(1, v));
        }
    }

    private static void firesToItsEnds() {
        for (int w : new int[] {1, 120}) {
            for (int k : new int[] {1, 6}) {
                EnginesAsleep x = oneAt(500, 10);
                Check.due("w " + w + ", k " + k, x.fires(w, k), 490 - w);
                Check.row("w " + w + ", k " + k, x, 490 - w);
            }
        }
    }

    /** "-5000: there is none" */
    private static void firesOfNone() {
        Check.due("no trains", new EnginesAsleep().fires(1, 1), -5000);
        EnginesAsleep x = oneAt(100, 10);
        x.fires(10, 1);
        x.plan(0, -1);
        Check.due("none planned", x.fires(10, 1), -5000);
        Check.row("the row stays", x, 80);
        x.plan(0, 0);
        x.light(0);
        Check.due("all are lit", x.fires(10, 1), -5000);
        Check.row("the row stays again", x, 80);
        Busy.leaves("all planned ones are lit", -5000, Busy::made, y -> y.fires(20, 2));
    }

    /** "Fires of planned ENGINES": of no other ones. */
    private static void firesOfPlannedOnes() {
        EnginesAsleep x = planned(new int[] {100, 200, 300}, new int[] {10, 20, 30});
        x.plan(1, -1);
        x.engine(10, 1, 600, false);
        Check.due("two of three", x.fires(10, 1), 80);
        Check.row("NONE without", x, 80, -1, 260);
        x.plan(0, -1);
        x.plan(2, 0);
        Check.due("another one for it", x.fires(10, 1), 280);
        Check.row("another one for it", x, -1, -1, 280);
        x.dead(0, true);
        Check.due("a dead one is planned too", x.fires(10, 1), 280);
    }

    /** "that are not LIT" */
    private static void firesThatAreNotLit() {
        EnginesAsleep x = planned(new int[] {100, 100}, new int[] {10, 10});
        Check.due("both", x.fires(20, 1), 50);
        Check.row("both", x, 50, 70);
        x.light(1);
        Check.due("one is lit, not in steam", x.fires(20, 1), 70);
        Check.row("one is lit, not in steam", x, 70, -1);
        x.drop(1);
        Check.due("its fire is dropped", x.fires(20, 1), 50);
        Check.row("its fire is dropped", x, 50, 70);
    }

    /** "so that, LIT as he ends, it is IN STEAM by its TRAIN's MINUTE" */
    private static void firesLitAsHeEnds() {
        EnginesAsleep x = oneAt(100, 60);
        Check.due("begun", x.fires(15, 1), 25);
        x.pass(25 + 15);
        Check.due("it fits, lit then", x.fits(0, 0), 1);
        x.pass(1);
        Check.due("it does not, lit a minute later", x.fits(0, 0), 0);
        Check.due("raise 0", oneAt(100, 0).fires(15, 1), 85);
        Check.due("raise 600", oneAt(2000, 600).fires(15, 1), 1385);
    }

    /** "(it may be below NOW, or 0)" */
    private static void firesBelowNow() {
        EnginesAsleep x = oneAt(10, 5);
        Check.due("just 0", x.fires(5, 1), 0);
        Check.due("-1", x.fires(6, 1), -1);
        Check.row("-1", x, -1);
        x.pass(600);
        Check.due("below NOW", x.fires(5, 1), 0);
        Check.due("far below NOW", x.fires(120, 1), -115);
        int[] none = new int[8];
        int[] most = {600, 600, 600, 600, 600, 600, 600, 600};
        EnginesAsleep y = planned(none, most);
        Check.due("the least there is", y.fires(120, 1), -600 - 8 * 120);
        Check.row("the least there is", y, -1560, -1440, -1320, -1200, -1080, -960, -840, -720);
    }

    /** "by the MINUTE at which the man would have to end at the latest, the greatest first": not by the TRAIN's own. */
    private static void firesFromTheLastOn() {
        EnginesAsleep x = planned(new int[] {300, 200, 250}, new int[] {200, 20, 100});
        // To end by 100, 180, 150.
        Check.due("one man", x.fires(60, 1), 0);
        Check.row("one man", x, 0, 120, 60);
        Check.due("two men", x.fires(60, 2), 40);
        Check.row("two men", x, 40, 120, 90);
        Check.due("short fires", x.fires(30, 1), 70);
        Check.row("short fires", x, 70, 150, 120);
    }

    /** "(of equal ones the greater number first)" */
    private static void firesOfEqualOnes() {
        EnginesAsleep x = planned(new int[] {100, 150, 120}, new int[] {0, 50, 20});
        Check.due("all by 100", x.fires(10, 1), 70);
        Check.row("all by 100", x, 70, 80, 90);
        Check.due("two men", x.fires(10, 2), 80);
        Check.row("two men", x, 80, 90, 90);
        x.plan(0, -1);
        x.plan(2, 0);
        Check.due("0 for the last", x.fires(10, 1), 90);
        // By 100 for train 1, by 120 for train 2.
        Check.row("0 for the last", x, -1, 90, 110);
    }

    /** "Of k men (1 .. 6) none does two at once", "(.. at first all always)" */
    private static void firesOfManyMen() {
        int[] minutes = {1000, 1000, 1000, 1000, 1000, 1000, 1000, 1000};
        EnginesAsleep x = planned(minutes, new int[8]);
        int[] first = {40, 520, 640, 760, 760, 760};
        for (int k = 1; k <= 6; k++) {
            Check.due(k + " men", x.fires(120, k), first[k - 1]);
        }
        Check.row("six men", x, 760, 760, 880, 880, 880, 880, 880, 880);
        x.fires(120, 3);
        Check.row("three men", x, 640, 640, 760, 760, 760, 880, 880, 880);
        x.fires(120, 1);
        Check.row("one man", x, 40, 160, 280, 400, 520, 640, 760, 880);
    }

    /** "to the man who is free the latest .., ends at the earlier of that MINUTE and when he is free" */
    private static void firesOfTheManFreeTheLatest() {
        EnginesAsleep x = planned(new int[] {100, 110, 115, 200}, new int[4]);
        // 200: begun 160; 115: begun 75 by the other; 110: by the first, begun 70; 100: the second is free till 75.
        Check.due("two men", x.fires(40, 2), 35);
        Check.row("two men", x, 35, 70, 75, 160);
        EnginesAsleep z = planned(new int[] {120, 125, 130, 180, 200}, new int[5]);
        // 200: 160; 180: 140; 130: 90; 125 by the first: 85; 120 by the second, who is free till 140.
        Check.due("three men", z.fires(40, 3), 80);
        Check.row("three men", z, 80, 85, 90, 140, 160);
        z.plan(0, -1);
        Check.due("four of them", z.fires(40, 3), 85);
        EnginesAsleep u = planned(new int[] {125, 130, 135, 140, 190, 200}, new int[6]);
        // The fifth by the first man, free till 160; the sixth by the second, free till 150, not by one free till 100.
        Check.due("four men", u.fires(40, 4), 85);
        Check.row("four men", u, 85, 90, 95, 100, 150, 160);
        EnginesAsleep y = planned(new int[] {100, 140, 180}, new int[3]);
        Check.due("he is free just then", y.fires(40, 1), 60);
        Check.row("he is free just then", y, 60, 100, 140);
        Check.due("a minute more", y.fires(41, 1), 57);
        Check.row("a minute more", y, 57, 98, 139);
    }

    /** "NONE: others." */
    private static void menOfOthers() {
        Busy.refused("w 0", x -> x.men(0));
        Busy.refused("w -1", x -> x.men(-1));
        Busy.refused("w 121", x -> x.men(121));
        for (int v : WILD) {
            Busy.refused("w " + v, x -> x.men(v));
        }
        Check.due("w 0, one to light", oneAt(500, 0).men(0), -1);
        Check.due("w 121, one to light", oneAt(500, 0).men(121), -1);
        Check.due("w 1", oneAt(500, 0).men(1), 1);
        Check.due("w 120", oneAt(500, 0).men(120), 1);
    }

    /** "(none to light: 1)" */
    private static void menOfNoneToLight() {
        Check.due("no trains", new EnginesAsleep().men(1), 1);
        EnginesAsleep x = oneAt(0, 600);
        x.pass(600);
        x.inside(0);
        Check.due("it is far too late", x.men(120), -2);
        x.light(0);
        Check.due("all are lit", x.men(120), 1);
        x.drop(0);
        x.plan(0, -1);
        Check.due("none planned", x.men(120), 1);
        Busy.leaves("all planned ones are lit", 1, Busy::made, y -> y.men(20));
    }

    /** "with whom fires() begins not ahead of NOW": just NOW is good. */
    private static void menNotAheadOfNow() {
        int[] minutes = {100, 100, 100, 100, 100, 100, 100, 100};
        EnginesAsleep x = planned(minutes, new int[8]);
        // k men begin at 100 less 10 times so many as one of them has.
        int[] begins = {20, 60, 70, 80, 80, 80};
        int now = 0;
        for (int k = 1; k <= 4; k++) {
            x.pass(begins[k - 1] - now);
            now = begins[k - 1];
            Check.due("at " + now, x.men(10), k);
            x.pass(1);
            now++;
            Check.due("at " + now, x.men(10), k == 4 ? -2 : k + 1);
        }
        EnginesAsleep y = oneAt(10, 0);
        Check.due("at 0, begun at 0", y.men(10), 1);
        Check.due("at 0, begun at -1", y.men(11), -2);
    }

    /** "-2: six do not" */
    private static void menThatDoNot() {
        EnginesAsleep x = planned(new int[] {100, 100, 100, 100, 100, 100}, new int[6]);
        x.pass(90);
        Check.due("six at once", x.men(10), 6);
        x.fires(10, 6);
        x.engine(10, 1, 0, false);
        x.train(100, 0, 1);
        x.plan(6, 6);
        Check.due("a seventh", x.men(10), -2);
        Check.row("the row stays", x, 90, 90, 90, 90, 90, 90);
        x.light(0);
        Check.due("six again", x.men(10), 6);
        Check.row("the row stays again", x, 90, 90, 90, 90, 90, 90);
    }

    private static EnginesAsleep standing(int ring, int... stalls) {
        EnginesAsleep x = new EnginesAsleep();
        x.ring(ring);
        for (int e = 0; e < stalls.length; e++) {
            x.engine(10, 1, 0, false);
            x.light(e);
            x.move(e, stalls[e]);
        }
        return x;
    }

    private static void frost(EnginesAsleep x, int far, int many, int bits) {
        Check.due("frost(" + far + ")", x.frost(far), many);
        Check.row("frost(" + far + ")", x, bits);
    }

    /** "far (0 .. 12)", "NONE: others." */
    private static void frostOfOthers() {
        Busy.refused("far -1", x -> x.frost(-1));
        Busy.refused("far 13", x -> x.frost(13));
        for (int v : WILD) {
            Busy.refused("far " + v, x -> x.frost(v));
        }
        EnginesAsleep x = standing(11, 0, 5);
        frost(x, 0, 2, 3);
        frost(x, 12, 1, 1);
    }

    /** None in a STALL: none, and no bits. */
    private static void frostOfNone() {
        for (int far = 0; far <= 12; far++) {
            frost(new EnginesAsleep(), far, 0, 0);
        }
        EnginesAsleep x = standing(11, 3, 4);
        x.move(0, 11);
        x.move(1, 11);
        frost(x, 0, 0, 0);
        x.move(1, 4);
        frost(x, 0, 1, 2);
        frost(x, 12, 1, 2);
    }

    /** "in a STALL at most far (..) STALLS away": just so far is good. */
    private static void frostAtMostSoFar() {
        for (int far = 0; far <= 11; far++) {
            EnginesAsleep x = standing(23, 5, 5 + far);
            frost(x, far, 1, 1);
            if (far > 0) {
                frost(x, far - 1, 2, 3);
            }
            frost(x, far + 1, 1, 1);
        }
        EnginesAsleep x = standing(23, 0, 4, 8);
        frost(x, 3, 3, 7);
        frost(x, 4, 1, 2);
        frost(x, 7, 1, 2);
        frost(x, 8, 1, 1);
    }

    /** "(the ring of STALLS alone: behind the last comes 0 ..)" */
    private static void frostBehindTheLast() {
        for (int n : new int[] {4, 5, 11, 22, 23}) {
            EnginesAsleep x = standing(n, 0, n - 1);
            frost(x, 0, 2, 3);
            frost(x, 1, 1, 1);
            EnginesAsleep y = standing(n, n - 1, 1);
            frost(y, 1, 2, 3);
            frost(y, 2, 1, 1);
            EnginesAsleep z = standing(n, 0, n / 2);
            frost(z, n / 2 - 1, 2, 3);
            frost(z, n / 2, 1, 1);
        }
    }

    private static void frostInOneStall() {
        EnginesAsleep x = standing(11, 3, 3, 3 + 2, 3 + 2);
        frost(x, 0, 2, 5);
        frost(x, 1, 2, 5);
        frost(x, 2, 1, 1);
        x.move(1, 11);
        frost(x, 2, 1, 1);
        x.move(0, 11);
        frost(x, 2, 1, 4);
    }

    /** "LIT or not", "(.. those LIT count for nothing more)" */
    private static void frostLitOrNot() {
        EnginesAsleep x = standing(11, 0, 2, 4);
        frost(x, 2, 1, 2);
        x.drop(1);
        frost(x, 2, 1, 2);
        x.dead(1, true);
        frost(x, 2, 1, 2);
        x.drop(0);
        x.drop(2);
        frost(x, 2, 1, 2);
        frost(x, 1, 3, 7);
        x.light(0);
        frost(x, 1, 3, 7);
    }

    /** "the ROW: they as bits, of as few the least" */
    private static void frostOfEqualOnes() {
        EnginesAsleep x = standing(11, 4, 5, 6, 7);
        frost(x, 1, 2, 0b0101);
        frost(x, 2, 1, 2);
        frost(x, 3, 1, 1);
        EnginesAsleep y = standing(11, 7, 6, 5, 4);
        frost(y, 2, 1, 2);
        EnginesAsleep z = standing(11, 0, 10, 1, 5, 6);
        frost(z, 1, 2, 0b01001);
        frost(z, 2, 2, 0b01001);
    }

    private static void frostOfTwelve() {
        EnginesAsleep x = standing(23, 0, 2, 4, 6, 8, 10, 12, 14, 16, 18, 20, 22);
        frost(x, 0, 12, 4095);
        frost(x, 1, 11, 0b011111111111);
        frost(x, 2, 4, frostByAll(x, 2, 4));
        frost(x, 11, 1, 1);
        EnginesAsleep y = standing(23, 22, 20, 18, 16, 14, 12, 10, 8, 6, 4, 2, 0);
        frost(y, 4, 3, frostByAll(y, 4, 3));
    }

    /** The least bits of so many, by trying all. */
    private static int frostByAll(EnginesAsleep x, int far, int many) {
        int[] stalls = new int[12];
        for (int e = 0; e < 12; e++) {
            stalls[e] = x.of(e, 0);
        }
        for (int bits = 0; bits < 4096; bits++) {
            boolean all = Integer.bitCount(bits) == many;
            for (int e = 0; e < 12 && all; e++) {
                boolean warm = false;
                for (int o = 0; o < 12; o++) {
                    int apart = Math.abs(stalls[e] - stalls[o]);
                    warm |= (bits >> o & 1) != 0 && Math.min(apart, 23 - apart) <= far;
                }
                all = warm;
            }
            if (all) {
                return bits;
            }
        }
        return -1;
    }

    private static void onlyAsk() {
        Busy.onlyAsks("fires", x -> x.fires(20, 2));
        Busy.onlyAsks("fires to light", x -> {
            x.plan(2, 3);
            int first = x.fires(20, 2);
            x.plan(2, -1);
            return first;
        });
        Busy.onlyAsks("men", x -> x.men(20));
        Busy.onlyAsks("frost", x -> x.frost(1));
    }
}
