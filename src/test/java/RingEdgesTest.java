/** Promises 1 to 9, sentence by sentence: each edge that one names, each call that one refuses. */
public final class RingEdgesTest {
    private static final int[] WILD = {Integer.MIN_VALUE, Integer.MIN_VALUE + 1, -1000, 1000, 1 << 30, Integer.MAX_VALUE};

    public static void main(String[] args) {
        newStalls();
        newMinutes();
        ringOfEachSize();
        ringOfOthers();
        ringWithOneInside();
        ringIsAsAtFirst();
        ringOfAllIsAsAtFirst();
        stallOfOthers();
        stallTooLongForOne();
        stallTooLongForTwo();
        stallGetsBoth();
        sheetClamps();
        sheetLowestBits();
        sheetGoesRound();
        sheetBehindIt();
        sheetOfAll();
        sheetBelowNothing();
        sheetMissing();
        sheetOfOthers();
        sheetRefusedFirst();
        sheetKeepsTheRest();
        shutOfOthers();
        shutTwice();
        setOfOthers();
        setToItsEnds();
        stepsOfAll();
        stepsOfOthers();
        signUpToSixty();
        signHighestFirst();
        endUpToAll();
        endOfOthers();
        Check.end();
    }

    private static EnginesAsleep with(int... lengths) {
        EnginesAsleep x = new EnginesAsleep();
        for (int e = 0; e < lengths.length; e++) {
            x.engine(lengths[e], 1, 0, false);
            x.light(e);
        }
        return x;
    }

    /** "n STALLS (4 .. 23, at first 11)", "LONG 10 .. 60 (at first 30)", "HOODS: bits (..; at first 3)", "SHUT or not". */
    private static void newStalls() {
        EnginesAsleep x = with(30, 15, 15, 5);
        Check.due("stalls at first", x.count(0), 11);
        Check.due("the table is at the road", x.count(3), 11);
        for (int s = 0; s < 11; s++) {
            Check.due("30 long, open, no rule", x.takes(s, 0), 1);
        }
        x.move(1, 4);
        Check.due("15 behind 15", x.takes(4, 2), 1);
        Check.due("30 behind 15", x.takes(4, 0), 0);
        x.move(2, 4);
        Check.due("hood over the back", x.of(1, 6), 1);
        Check.due("hood over the front", x.of(2, 6), 1);
        x.move(0, 5);
        Check.due("not 35 long", x.takes(5, 3), 0);
    }

    /** "NOW: a MINUTE (0 at first)", "TURN minutes (1 .. 9, at first 1)", "GO minutes (0 .. 9, at first 2)"; "No ENGINES." */
    private static void newMinutes() {
        EnginesAsleep x = new EnginesAsleep();
        Check.due("NOW", x.count(2), 0);
        Check.due("no engines", x.count(1), 0);
        Check.due("no trains", x.count(4), 0);
        Check.due("none come", x.count(5), 0);
        Check.due("none leave", x.count(6), 0);
        Check.due("no text", x.count(11), 0);
        Check.due("no row", x.count(10), 0);
        Check.due("TURN", x.set(0, 1), 1);
        Check.due("GO", x.set(1, 2), 2);
        for (int g = 0; g < 3; g++) {
            Check.due("no coal", x.coal(g, 0, 0), 0);
        }
    }

    /** All of the 23 are as at first, the last too. */
    private static void ringOfAllIsAsAtFirst() {
        EnginesAsleep x = with(30);
        x.ring(23);
        for (int s = 0; s < 23; s++) {
            x.stall(s, 10, 0);
            x.shut(s, true);
        }
        Check.due("ring(23)", x.ring(23), 23);
        for (int s = 0; s < 23; s++) {
            Check.due("30 long and open", x.takes(s, 0), 1);
            x.move(0, s);
            Check.due("a hood", x.of(0, 6), 1);
        }
        x.move(0, 23);
        for (int s = 0; s < 23; s++) {
            x.stall(s, 10, 0);
            x.shut(s, true);
        }
        x.ring(4);
        Check.due("ring(23) behind ring(4)", x.ring(23), 4);
        for (int s = 0; s < 23; s++) {
            Check.due("30 long and open", x.takes(s, 0), 1);
            x.move(0, s);
            Check.due("a hood", x.of(0, 6), 1);
        }
    }

    private static void ringOfEachSize() {
        EnginesAsleep x = with(30);
        int was = 11;
        for (int n = 4; n <= 23; n++) {
            Check.due("ring(" + n + ")", x.ring(n), was);
            Check.due("stalls", x.count(0), n);
            Check.due("the table is at the road", x.count(3), n);
            Check.due("engines are on the road", x.of(0, 0), n);
            Check.due("the last stall", x.takes(n - 1, 0), 1);
            Check.due("no stall behind it", x.takes(n, 0), -1);
            was = n;
        }
        Check.due("as many again", x.ring(23), 23);
    }

    /** "Refused: others" */
    private static void ringOfOthers() {
        Busy.refused("ring(3)", Busy::allOut, x -> x.ring(3));
        Busy.refused("ring(24)", Busy::allOut, x -> x.ring(24));
        Busy.refused("ring(0)", Busy::allOut, x -> x.ring(0));
        Busy.refused("ring(-1)", Busy::allOut, x -> x.ring(-1));
        Busy.refused("ring(-11)", Busy::allOut, x -> x.ring(-11));
        for (int v : WILD) {
            Busy.refused("ring(" + v + ")", Busy::allOut, x -> x.ring(v));
        }
    }

    /** "Refused: .. some ENGINE is in a STALL." */
    private static void ringWithOneInside() {
        for (int n = 4; n <= 23; n += 19) {
            int stalls = n;
            Busy.refused("ring with three inside", x -> x.ring(stalls));
        }
        Busy.refused("ring of as many with three inside", x -> x.ring(6));
        EnginesAsleep x = with(10, 10);
        x.move(1, 10);
        Check.due("one at the last stall", x.ring(5), -1);
        x.move(1, 11);
        x.move(0, 0);
        Check.due("one at the first stall", x.ring(5), -1);
        x.dead(0, true);
        x.drop(0);
        Check.due("a cold, dead one", x.ring(5), -1);
        x.drag(0, 1, 11);
        Check.due("all are out", x.ring(5), 11);
    }

    /** "THE RING has n STALLS, as at first each, THE TABLE stands at THE ROAD" */
    private static void ringIsAsAtFirst() {
        EnginesAsleep x = with(30, 5);
        for (int s = 0; s < 11; s++) {
            x.stall(s, 10, 0);
            x.shut(s, true);
        }
        x.shut(4, false);
        x.move(1, 4);
        x.move(1, 11);
        x.set(0, 7);
        x.set(1, 8);
        x.pass(9);
        int now = x.count(2);
        Check.due("ring(12)", x.ring(12), 11);
        Check.due("the table", x.count(3), 12);
        for (int s = 0; s < 12; s++) {
            Check.due("30 long and open", x.takes(s, 0), 1);
        }
        Check.due("NOW stays", x.count(2), now);
        Check.due("TURN stays", x.set(0, 1), 7);
        Check.due("GO stays", x.set(1, 0), 8);
        x.move(1, 4);
        Check.due("hood", x.of(1, 6), 1);
        x.stall(4, 60, 1);
        Check.due("one step from the road to stall 11", x.steps(12, 11), 1);
        x.move(1, 12);
        x.shut(3, true);
        Check.due("ring of as many", x.ring(12), 12);
        x.move(1, 4);
        Check.due("hoods of as many", x.of(1, 6), 1);
        Check.due("LONG of as many", x.takes(4, 0), 0);
        Check.due("open again", x.takes(3, 0), 1);
    }

    /** "Refused: others" */
    private static void stallOfOthers() {
        Busy.denied("stall(-1, ..)", x -> x.stall(-1, 30, 3));
        Busy.denied("stall(6, ..) of six", x -> x.stall(6, 30, 3));
        Busy.denied("LONG 9", x -> x.stall(0, 9, 3));
        Busy.denied("LONG 61", x -> x.stall(0, 61, 3));
        Busy.denied("LONG 0", x -> x.stall(0, 0, 3));
        Busy.denied("HOODS -1", x -> x.stall(0, 30, -1));
        Busy.denied("HOODS 4", x -> x.stall(0, 30, 4));
        for (int v : WILD) {
            Busy.denied("stall " + v, x -> x.stall(v, 30, 3));
            Busy.denied("LONG " + v, x -> x.stall(0, v, 3));
            Busy.denied("HOODS " + v, x -> x.stall(0, 30, v));
        }
        EnginesAsleep x = new EnginesAsleep();
        Check.due("the last of eleven", x.stall(10, 30, 3), true);
        Check.due("behind the last", x.stall(11, 30, 3), false);
        x.ring(23);
        Check.due("the last of 23", x.stall(22, 30, 3), true);
        Check.due("behind the last of 23", x.stall(23, 30, 3), false);
        x.ring(4);
        Check.due("one of the 23 before", x.stall(4, 30, 3), false);
    }

    /** "Refused: .. what is in it would be too long." */
    private static void stallTooLongForOne() {
        Busy.denied("14 for 15", x -> x.stall(4, 14, 0));
        EnginesAsleep x = with(20);
        x.move(0, 3);
        Check.due("19 for 20", x.stall(3, 19, 3), false);
        Check.due("20 for 20", x.stall(3, 20, 3), true);
        Check.due("10 for the next one", x.stall(4, 10, 3), true);
        x.move(0, 11);
        Check.due("19 for none", x.stall(3, 19, 3), true);
    }

    private static void stallTooLongForTwo() {
        Busy.denied("17 for 10 and 8", x -> x.stall(1, 17, 3));
        EnginesAsleep x = with(20, 9);
        x.move(0, 3);
        x.move(1, 3);
        Check.due("28 for 20 and 9", x.stall(3, 28, 3), false);
        Check.due("29 for 20 and 9", x.stall(3, 29, 3), true);
        x.move(1, 11);
        Check.due("28 for 20", x.stall(3, 28, 3), true);
    }

    /** "LONG and HOODS of a STALL become these": 10 and 60, 0 to 3, and of this one alone. */
    private static void stallGetsBoth() {
        EnginesAsleep x = with(10, 11, 30, 30, 5);
        Check.due("LONG 10", x.stall(2, 10, 3), true);
        Check.due("10 fit", x.takes(2, 0), 1);
        Check.due("11 do not", x.takes(2, 1), 0);
        Check.due("the next one is as it was", x.takes(3, 2), 1);
        Check.due("LONG 60", x.stall(2, 60, 3), true);
        x.move(2, 2);
        Check.due("60 for 30 and 30", x.takes(2, 3), 1);
        x.move(3, 2);
        int[] smokes = {12, 4, 8, 0};
        for (int hoods = 0; hoods < 4; hoods++) {
            Check.due("HOODS " + hoods, x.stall(2, 60, hoods), true);
            Check.due("smoke under HOODS " + hoods, x.smoke(), smokes[hoods]);
        }
        x.move(4, 3);
        Check.due("the hoods of the next one", x.of(4, 6), 1);
    }

    /** "below 10: 10, above 60: 60" */
    private static void sheetClamps() {
        EnginesAsleep x = new EnginesAsleep();
        Check.due("9", x.sheet(2, 1, 9, 0), 10 + 300);
        Check.due("10", x.sheet(2, 1, 10, 0), 10 + 300);
        Check.due("11", x.sheet(2, 1, 11, 0), 11 + 300);
        Check.due("59", x.sheet(2, 1, 59, 0), 59 + 300);
        Check.due("60", x.sheet(2, 1, 60, 0), 60 + 300);
        Check.due("61", x.sheet(2, 1, 61, 0), 60 + 300);
        Check.due("0", x.sheet(2, 1, 0, 0), 10 + 300);
        Check.due("the least", x.sheet(2, 1, Integer.MIN_VALUE, 0), 10 + 300);
        Check.due("the greatest", x.sheet(2, 1, Integer.MAX_VALUE, 0), 60 + 300);
        Check.due("9, 10, .. 19", x.sheet(2, 11, 9, 1), 10 + 10 + 11 + 12 + 13 + 14 + 15 + 16 + 17 + 18 + 19);
        Check.due("61, 60, .. 51", x.sheet(2, 11, 61, -1), 60 + 60 + 59 + 58 + 57 + 56 + 55 + 54 + 53 + 52 + 51);
    }

    /** "of bytes, shorts the lowest bits, with their sign" */
    private static void sheetLowestBits() {
        EnginesAsleep x = new EnginesAsleep();
        Check.due("a byte 127", x.sheet(0, 1, 127, 0), 60 + 300);
        Check.due("a byte 128", x.sheet(0, 1, 128, 0), 10 + 300);
        Check.due("a byte 255", x.sheet(0, 1, 255, 0), 10 + 300);
        Check.due("a byte 256 + 25", x.sheet(0, 1, 281, 0), 25 + 300);
        Check.due("a byte 65536 + 25", x.sheet(0, 1, 65561, 0), 25 + 300);
        Check.due("a byte -256 + 25", x.sheet(0, 1, -231, 0), 25 + 300);
        Check.due("a byte -129", x.sheet(0, 1, -129, 0), 60 + 300);
        Check.due("a short 281", x.sheet(1, 1, 281, 0), 60 + 300);
        Check.due("a short 32767", x.sheet(1, 1, 32767, 0), 60 + 300);
        Check.due("a short 32768", x.sheet(1, 1, 32768, 0), 10 + 300);
        Check.due("a short 65535", x.sheet(1, 1, 65535, 0), 10 + 300);
        Check.due("a short 65561", x.sheet(1, 1, 65561, 0), 25 + 300);
        Check.due("a short -32769", x.sheet(1, 1, -32769, 0), 60 + 300);
        Check.due("an int 281", x.sheet(2, 1, 281, 0), 60 + 300);
        Check.due("an int 65561", x.sheet(2, 1, 65561, 0), 60 + 300);
        Check.due("an int -231", x.sheet(2, 1, -231, 0), 10 + 300);
    }

    /** "n entries f, f + step, ..", as bytes, shorts and ints go round. */
    private static void sheetGoesRound() {
        EnginesAsleep x = new EnginesAsleep();
        // 126, 127, -128, -127
        Check.due("bytes", x.sheet(0, 4, 126, 1), 60 + 60 + 10 + 10 + 210);
        // 20, 276 (20), 532 (20)
        Check.due("bytes by 256", x.sheet(0, 3, 20, 256), 60 + 240);
        Check.due("shorts", x.sheet(1, 4, 32766, 1), 60 + 60 + 10 + 10 + 210);
        Check.due("shorts by 65536", x.sheet(1, 3, 20, 65536), 60 + 240);
        Check.due("ints", x.sheet(2, 4, Integer.MAX_VALUE - 1, 1), 60 + 60 + 10 + 10 + 210);
        Check.due("ints down", x.sheet(2, 3, Integer.MIN_VALUE, -1), 10 + 60 + 60 + 240);
        // 20, 20 + 2^31, 20
        Check.due("ints by the least", x.sheet(2, 3, 20, Integer.MIN_VALUE), 20 + 10 + 20 + 240);
        Check.due("shorts by the least", x.sheet(1, 3, 20, Integer.MIN_VALUE), 60 + 240);
    }

    /** "STALLS behind it have 30" */
    private static void sheetBehindIt() {
        EnginesAsleep x = with(30, 5);
        x.sheet(2, 11, 40, 0);
        Check.due("none of it", x.sheet(2, 0, 40, 0), 330);
        Check.due("the first has 30", x.takes(0, 0), 1);
        x.sheet(2, 11, 10, 0);
        Check.due("two of it", x.sheet(2, 2, 29, 0), 58 + 270);
        Check.due("the second", x.takes(1, 0), 0);
        Check.due("the third", x.takes(2, 0), 1);
        Check.due("the last", x.takes(10, 0), 1);
        Check.due("all of it but one", x.sheet(0, 10, 10, 0), 130);
        Check.due("the last but one", x.takes(9, 0), 0);
        Check.due("the last has 30", x.takes(10, 0), 1);
    }

    /** "n above the STALLS there are": just as many are all of them. */
    private static void sheetOfAll() {
        EnginesAsleep x = new EnginesAsleep();
        Check.due("eleven", x.sheet(2, 11, 12, 0), 132);
        Check.due("twelve", x.sheet(2, 12, 12, 0), -1);
        x.ring(23);
        Check.due("23", x.sheet(1, 23, 10, 1), 23 * 10 + 22 * 23 / 2);
        Check.due("24", x.sheet(1, 24, 10, 1), -1);
        x.ring(4);
        Check.due("four", x.sheet(0, 4, 60, -1), 60 + 59 + 58 + 57);
        Check.due("five", x.sheet(0, 5, 60, -1), -1);
    }

    /** "-2: n below 0 (of kinds 0 .. 2; nothing changes)" */
    private static void sheetBelowNothing() {
        for (int kind = 0; kind < 3; kind++) {
            int k = kind;
            Busy.leaves("n -1 of kind " + k, -2, Busy::allOut, x -> x.sheet(k, -1, 40, 1));
            Busy.leaves("the least n of kind " + k, -2, Busy::allOut, x -> x.sheet(k, Integer.MIN_VALUE, 40, 1));
        }
    }

    /** "-3: missing (all 30)", whatever n is that is not above the stalls. */
    private static void sheetMissing() {
        for (int n : new int[] {Integer.MIN_VALUE, -1, 0, 5, 11}) {
            EnginesAsleep x = with(30, 5);
            x.sheet(2, 11, 10, 0);
            x.stall(9, 60, 3);
            Check.due("missing, n " + n, x.sheet(3, n, 40, 1), -3);
            for (int s = 0; s < 11; s++) {
                Check.due("30 long", x.takes(s, 0), 1);
                x.move(0, s);
                Check.due("no longer", x.takes(s, 1), 0);
            }
        }
    }

    /** "NONE: another kind, n above the STALLS there are, some ENGINE is in a STALL" */
    private static void sheetOfOthers() {
        Busy.refused("kind -1", Busy::allOut, x -> x.sheet(-1, 1, 40, 0));
        Busy.refused("kind 4", Busy::allOut, x -> x.sheet(4, 1, 40, 0));
        for (int kind = 0; kind < 4; kind++) {
            int k = kind;
            Busy.refused("n 7 of kind " + k, Busy::allOut, x -> x.sheet(k, 7, 40, 0));
            Busy.refused("the greatest n of kind " + k, Busy::allOut, x -> x.sheet(k, Integer.MAX_VALUE, 40, 0));
            Busy.refused("three inside, kind " + k, x -> x.sheet(k, 1, 40, 0));
        }
        for (int v : WILD) {
            Busy.refused("kind " + v, Busy::allOut, x -> x.sheet(v, 1, 40, 0));
        }
    }

    /** "(these first)" */
    private static void sheetRefusedFirst() {
        Busy.refused("kind 4 and n -1", Busy::allOut, x -> x.sheet(4, -1, 40, 0));
        Busy.refused("kind -1 and n -1", Busy::allOut, x -> x.sheet(-1, -1, 40, 0));
        Busy.refused("three inside and n -1", x -> x.sheet(0, -1, 40, 0));
        Busy.refused("three inside and missing", x -> x.sheet(3, 0, 40, 0));
        Busy.refused("missing and n 7", Busy::allOut, x -> x.sheet(3, 7, 40, 0));
    }

    /** It tells LONG alone. */
    private static void sheetKeepsTheRest() {
        EnginesAsleep x = with(10, 10);
        x.stall(3, 30, 0);
        x.shut(4, true);
        x.move(1, 5);
        x.move(1, 11);
        x.pass(2);
        x.move(0, 2);
        x.move(0, 11);
        x.move(0, 6);
        x.move(0, 11);
        int now = x.count(2);
        Check.due("a sheet", x.sheet(2, 11, 20, 0), 220);
        Check.due("shut stays", x.takes(4, 0), 0);
        Check.due("NOW stays", x.count(2), now);
        Check.due("the table stays", x.count(3), 11);
        x.move(0, 3);
        Check.due("hoods stay", x.smoke(), 1);
        x.move(0, 11);
        x.sheet(3, 0, 0, 0);
        Check.due("shut stays, missing", x.takes(4, 0), 0);
        x.move(0, 3);
        Check.due("hoods stay, missing", x.smoke(), 1);
    }

    /** "Refused: none such." */
    private static void shutOfOthers() {
        Busy.denied("shut(-1, true)", x -> x.shut(-1, true));
        Busy.denied("shut(6, true) of six", x -> x.shut(6, true));
        Busy.denied("shut(6, false) of six", x -> x.shut(6, false));
        for (int v : WILD) {
            Busy.denied("shut(" + v + ", true)", x -> x.shut(v, true));
        }
    }

    /** "A STALL is SHUT or not: true." It is no matter what it was. */
    private static void shutTwice() {
        EnginesAsleep x = with(10, 10);
        Check.due("open, made open", x.shut(0, false), true);
        Check.due("takes it", x.takes(0, 0), 1);
        Check.due("shut", x.shut(0, true), true);
        Check.due("shut, made shut", x.shut(0, true), true);
        Check.due("takes none", x.takes(0, 0), 0);
        Check.due("the next one is open", x.takes(1, 0), 1);
        Check.due("open", x.shut(0, false), true);
        Check.due("takes it again", x.takes(0, 0), 1);
        x.move(0, 0);
        x.shut(0, true);
        Check.due("no front place", x.takes(0, 1), 0);
        Check.due("who is in stays", x.inside(0), 1);
    }

    /** "Refused: others." */
    private static void setOfOthers() {
        Busy.refused("TURN 0", x -> x.set(0, 0));
        Busy.refused("TURN -1", x -> x.set(0, -1));
        Busy.refused("TURN 10", x -> x.set(0, 10));
        Busy.refused("GO -1", x -> x.set(1, -1));
        Busy.refused("GO 10", x -> x.set(1, 10));
        Busy.refused("what -1", x -> x.set(-1, 5));
        Busy.refused("what 2", x -> x.set(2, 5));
        for (int v : WILD) {
            Busy.refused("what " + v, x -> x.set(v, 5));
            Busy.refused("TURN " + v, x -> x.set(0, v));
            Busy.refused("GO " + v, x -> x.set(1, v));
        }
    }

    /** TURN 1 .. 9, GO 0 .. 9: "what it was". */
    private static void setToItsEnds() {
        EnginesAsleep x = with(10);
        int was = 1;
        for (int v = 1; v <= 9; v++) {
            Check.due("TURN " + v, x.set(0, v), was);
            was = v;
        }
        was = 2;
        for (int v = 0; v <= 9; v++) {
            Check.due("GO " + v, x.set(1, v), was);
            was = v;
        }
        Check.due("TURN 9, GO 9", x.move(0, 2), 9 * 3 + 18);
        x.set(1, 0);
        Check.due("TURN 9, GO 0", x.move(0, 3), 9);
        x.set(0, 1);
        Check.due("TURN 1, GO 0", x.move(0, 4), 1);
    }

    /** "in a ring (behind n comes 0)", "the shorter way round" */
    private static void stepsOfAll() {
        for (int n : new int[] {4, 5, 22, 23}) {
            EnginesAsleep x = new EnginesAsleep();
            x.ring(n);
            for (int from = 0; from <= n; from += n > 5 ? 3 : 1) {
                for (int to = 0; to <= n; to++) {
                    int up = Math.floorMod(to - from, n + 1);
                    Check.due("steps " + from + " to " + to + " of " + n, x.steps(from, to), Math.min(up, n + 1 - up));
                }
            }
            Check.due("behind the road comes 0", x.steps(n, 0), 1);
            Check.due("ahead of 0 is the road", x.steps(0, n), 1);
            Check.due("ahead of the road is the last stall", x.steps(n, n - 1), 1);
            Check.due("over the road", x.steps(n - 1, 0), 2);
        }
    }

    /** "NONE: none such." */
    private static void stepsOfOthers() {
        Busy.refused("from -1", x -> x.steps(-1, 0));
        Busy.refused("to -1", x -> x.steps(0, -1));
        Busy.refused("from 7 of six", x -> x.steps(7, 0));
        Busy.refused("to 7 of six", x -> x.steps(0, 7));
        Busy.refused("none to itself", x -> x.steps(7, 7));
        Busy.leaves("the road is one", 0, Busy::made, x -> x.steps(6, 6));
        for (int v : WILD) {
            Busy.refused("from " + v, x -> x.steps(v, 0));
            Busy.refused("to " + v, x -> x.steps(0, v));
        }
    }

    private static EnginesAsleep signs(int n) {
        EnginesAsleep x = Busy.made();
        Check.text(x, "l>20".repeat(15).substring(0, n));
        x.inside(1);
        return x;
    }

    /** "Refused: there would be more than 60." */
    private static void signUpToSixty() {
        for (int n = 57; n <= 60; n++) {
            int many = n;
            Busy.refused("sign behind " + n, () -> signs(many), x -> x.sign(0x31313131));
        }
        for (int n = 0; n <= 56; n += 7) {
            Check.due("sign behind " + n, signs(n).sign(0), n + 4);
        }
        EnginesAsleep x = signs(60);
        x.end(56);
        Check.due("56 of 60 stay, and four", x.sign(0), 60);
        x.rule();
        Check.due("rule() has read all", x.sign(0), 4);
    }

    /** "Four signs come behind THE TEXT, of v the highest byte first" */
    private static void signHighestFirst() {
        int[] words = {0xff313131, 0x31ff3131, 0x3131ff31, 0x313131ff};
        for (int at = 0; at < 4; at++) {
            EnginesAsleep x = new EnginesAsleep();
            Check.due("four", x.sign(words[at]), 4);
            Check.due("the sign 255 is at " + at, x.rule(), -1 - at);
            x.sign(0x31312b31);
            Check.due("eight", x.sign(words[at]), 8);
            // 11+1 and up to two more digits.
            Check.due("behind the first four, at " + at, x.rule(), -1 - Math.min(4 + at, 6));
        }
        EnginesAsleep x = new EnginesAsleep();
        x.sign(-1);
        Check.due("all bits", x.rule(), -1);
        x.sign(0x80808080);
        x.end(1);
        Check.due("a sign 128", x.rule(), -1);
    }

    /** "THE TEXT has its first n signs alone: true" */
    private static void endUpToAll() {
        EnginesAsleep x = new EnginesAsleep();
        Check.due("none of none", x.end(0), true);
        x.sign(0x31323334);
        Check.due("all of four", x.end(4), true);
        Check.due("four", x.count(11), 4);
        Check.due("three of four", x.end(3), true);
        Check.due("three", x.count(11), 3);
        Check.due("they are a number", x.rule(), 0);
        Check.text(x, "l".repeat(60));
        Check.due("all of sixty", x.end(60), true);
        Check.due("sixty", x.count(11), 60);
        Check.due("none of sixty", x.end(0), true);
        Check.due("none", x.count(11), 0);
        x.sign(0x78783131);
        x.end(0);
        x.sign(0x31313131);
        x.end(2);
        Check.due("what was cut off is gone", x.rule(), 0);
    }

    /** "false if it has not so many, or n is below 0" */
    private static void endOfOthers() {
        Busy.denied("end(4) of three", x -> x.end(4));
        Busy.denied("end(-1)", x -> x.end(-1));
        Busy.denied("end(61)", x -> x.end(61));
        for (int v : WILD) {
            Busy.denied("end(" + v + ")", x -> x.end(v));
        }
        Busy.denied("end(61) of sixty", () -> signs(60), x -> x.end(61));
        Busy.denied("end(57) of 56", () -> signs(56), x -> x.end(57));
        Busy.denied("end(1) of none", () -> signs(0), x -> x.end(1));
    }
}
