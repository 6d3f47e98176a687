/** Promises 30 to 34, sentence by sentence: coal. */
public final class CoalEdgesTest {
    private static final int[] WILD = {Integer.MIN_VALUE, Integer.MIN_VALUE + 1, -1000, 1000, 1 << 30, Integer.MAX_VALUE};

    public static void main(String[] args) {
        coalOfOthers();
        coalToItsEnds();
        wantsOfOthers();
        wantsToItsEnds();
        coaledOfOthers();
        coaledOneToSeven();
        coaledNoneBelowWhatStays();
        coaledOfItsOwnOrABetterOne();
        coaledAllOfOneGrade();
        coaledTheLeastOfTheBest();
        coaledTheLeastOfOne();
        coaledOfEqualOnes();
        coaledThatWantsNone();
        coaledThatCannotBe();
        fillOfOthers();
        fillTakesIt();
        fillToTheLastTon();
        fillThatCannotBe();
        burnsOfOthers();
        burnsTheMost();
        burnsTheLeastBits();
        burnsNone();
        onlyAsk();
        Check.end();
    }

    private static EnginesAsleep of(int many) {
        EnginesAsleep x = new EnginesAsleep();
        for (int e = 0; e < many; e++) {
            x.engine(10, 1, 0, false);
        }
        return x;
    }

    private static void store(EnginesAsleep x, int none, int one, int two) {
        x.coal(0, none, 0);
        x.coal(1, one, 0);
        x.coal(2, two, 0);
    }

    /** "a GRADE 0 .. 2", "what is there (0 .. 999) and what has to stay (0 .. 999)", "Refused: others." */
    private static void coalOfOthers() {
        Busy.refused("GRADE -1", x -> x.coal(-1, 1, 1));
        Busy.refused("GRADE 3", x -> x.coal(3, 1, 1));
        for (int grade = 0; grade < 3; grade++) {
            int g = grade;
            Busy.refused("-1 there", x -> x.coal(g, -1, 1));
            Busy.refused("1000 there", x -> x.coal(g, 1000, 1));
            Busy.refused("-1 has to stay", x -> x.coal(g, 1, -1));
            Busy.refused("1000 have to stay", x -> x.coal(g, 1, 1000));
            for (int v : WILD) {
                Busy.refused(v + " there", x -> x.coal(g, v, 1));
                Busy.refused(v + " has to stay", x -> x.coal(g, 1, v));
            }
        }
        for (int v : WILD) {
            Busy.refused("GRADE " + v, x -> x.coal(v, 1, 1));
        }
    }

    /** "become these: what was there", "(At first 0, 0.)" */
    private static void coalToItsEnds() {
        EnginesAsleep x = of(1);
        x.wants(0, 40, 0);
        for (int g = 0; g < 3; g++) {
            Check.due("at first", x.coal(g, 999, 999), 0);
            Check.due("999 there, 999 stay", x.coaled(1), -2);
            Check.due("999 there", x.coal(g, 999, 959), 999);
            Check.due("999 there, 959 stay", x.coaled(1), 40);
            Check.due("999 there yet", x.coal(g, 999, 960), 999);
            Check.due("999 there, 960 stay", x.coaled(1), -2);
            Check.due("none there, more has to stay", x.coal(g, 0, 999), 999);
            Check.due("none there", x.coal(g, 0, 0), 0);
        }
        x.wants(0, 0, 0);
        Check.due("none stays at first", of(1).fill(1), 0);
    }

    /** "(0 .. 40) of a GRADE", "Refused: others." */
    private static void wantsOfOthers() {
        Busy.denied("engine -1", x -> x.wants(-1, 1, 1));
        Busy.denied("engine 5 of five", x -> x.wants(5, 1, 1));
        Busy.denied("-1 tons", x -> x.wants(0, -1, 1));
        Busy.denied("41 tons", x -> x.wants(0, 41, 1));
        Busy.denied("GRADE -1", x -> x.wants(0, 1, -1));
        Busy.denied("GRADE 3", x -> x.wants(0, 1, 3));
        for (int v : WILD) {
            Busy.denied("engine " + v, x -> x.wants(v, 1, 1));
            Busy.denied(v + " tons", x -> x.wants(0, v, 1));
            Busy.denied("GRADE " + v, x -> x.wants(0, 1, v));
        }
    }

    /** "(at first 0, 0): true" */
    private static void wantsToItsEnds() {
        EnginesAsleep x = of(2);
        store(x, 50, 50, 50);
        Check.due("at first", x.coaled(3), 0);
        Check.row("at first", x, 0, 0, 50, 50, 50);
        for (int g = 0; g < 3; g++) {
            Check.due("40 of " + g, x.wants(1, 40, g), true);
            Check.due("40", x.coaled(2), 40);
            Check.row("40", x, g, g == 0 ? 10 : 50, g == 1 ? 10 : 50, g == 2 ? 10 : 50);
            Check.due("0 of " + g, x.wants(1, 0, g), true);
            Check.due("0", x.coaled(2), 0);
            Check.row("0", x, g, 50, 50, 50);
        }
        Check.due("the other one as it was", x.coaled(1), 0);
        Check.row("the other one as it was", x, 0, 50, 50, 50);
    }

    /** "(1 to 7 of them)", "NONE: others." */
    private static void coaledOfOthers() {
        Busy.refused("none told", x -> x.coaled(0));
        Busy.refused("none such", x -> x.coaled(32));
        Busy.refused("one and none such", x -> x.coaled(1 | 32));
        Busy.refused("one and the highest bit", x -> x.coaled(1 | Integer.MIN_VALUE));
        Busy.refused("all bits", x -> x.coaled(-1));
        EnginesAsleep x = of(12);
        Check.due("eight", x.coaled(255), -1);
        Check.due("eight, high ones", x.coaled(255 << 4), -1);
        Check.due("twelve", x.coaled(4095), -1);
        Check.due("the thirteenth", x.coaled(1 << 12), -1);
        Check.due("seven", x.coaled(127), 0);
        Check.due("seven, high ones", x.coaled(127 << 5), 0);
    }

    /** "how much they take together; the ROW: of each told one, by number, its GRADE, then what would be there of 0, 1, 2" */
    private static void coaledOneToSeven() {
        EnginesAsleep x = of(12);
        store(x, 999, 999, 999);
        for (int e = 0; e < 12; e++) {
            x.wants(e, e + 1, e % 3);
        }
        Check.due("one", x.coaled(1 << 11), 12);
        Check.row("one", x, 2, 999, 999, 987);
        Check.due("seven", x.coaled(0b101101010101), 1 + 3 + 5 + 7 + 9 + 10 + 12);
        Check.row("seven", x, 0, 2, 1, 0, 2, 0, 2, 999 - 1 - 7 - 10, 999 - 5, 999 - 3 - 9 - 12);
        Check.due("a dead one in a stall", dragged(x).coaled(2), 2);
        for (int e = 0; e < 7; e++) {
            x.wants(e, 40, 0);
        }
        store(x, 280, 0, 0);
        Check.due("seven times 40", x.coaled(127), 280);
        Check.row("seven times 40", x, 0, 0, 0, 0, 0, 0, 0, 0, 0, 0);
        store(x, 279, 0, 0);
        Check.due("one too few", x.coaled(127), -2);
    }

    private static EnginesAsleep dragged(EnginesAsleep x) {
        x.light(0);
        x.drag(1, 0, 4);
        x.dead(1, true);
        return x;
    }

    /** "none below what has to stay": just as much may stay. */
    private static void coaledNoneBelowWhatStays() {
        for (int g = 0; g < 3; g++) {
            EnginesAsleep x = of(2);
            x.wants(0, 10, g);
            x.wants(1, 10, g);
            x.coal(g, 30, 10);
            Check.due("10 stay", x.coaled(3), 20);
            x.coal(g, 30, 11);
            Check.due("11 have to", x.coaled(3), -2);
            Check.due("one alone leaves 20", x.coaled(1), 10);
            x.coal(g, 30, 20);
            Check.due("20 stay", x.coaled(2), 10);
            x.coal(g, 30, 21);
            Check.due("21 have to", x.coaled(2), -2);
            x.coal(g, 10, 0);
            Check.due("none stays", x.coaled(1), 10);
            x.coal(g, 9, 0);
            Check.due("9 are there", x.coaled(1), -2);
        }
    }

    /** "(its own or a better one)": none of a worse one. */
    private static void coaledOfItsOwnOrABetterOne() {
        EnginesAsleep x = of(3);
        for (int own = 0; own < 3; own++) {
            for (int there = 0; there < 3; there++) {
                store(x, 0, 0, 0);
                x.coal(there, 5, 0);
                x.wants(0, 5, own);
                Check.due(own + " of " + there, x.coaled(1), there < own ? -2 : 5);
                if (there >= own) {
                    Check.row(own + " of " + there, x, there, 0, 0, 0);
                }
            }
        }
    }

    /** "with all it WANTS of one GRADE" */
    private static void coaledAllOfOneGrade() {
        EnginesAsleep x = of(2);
        x.wants(0, 10, 0);
        x.wants(1, 10, 0);
        store(x, 9, 9, 9);
        Check.due("27 are there, but not 10 of one", x.coaled(1), -2);
        store(x, 15, 5, 0);
        Check.due("20 are there for two", x.coaled(3), -2);
        store(x, 15, 5, 10);
        Check.due("10 of two", x.coaled(3), 20);
        Check.row("10 of two", x, 0, 2, 5, 5, 0);
    }

    /** "that which takes the least of GRADE 2" */
    private static void coaledTheLeastOfTheBest() {
        EnginesAsleep x = of(3);
        x.wants(0, 3, 0);
        x.wants(1, 5, 0);
        x.wants(2, 4, 1);
        store(x, 5, 7, 20);
        Check.due("4 and 3 of 1", x.coaled(7), 12);
        Check.row("4 and 3 of 1", x, 1, 0, 1, 0, 0, 20);
        store(x, 5, 6, 20);
        Check.due("3 of 2 are the least", x.coaled(7), 12);
        Check.row("3 of 2 are the least", x, 2, 0, 1, 0, 2, 20 - 3);
        store(x, 4, 6, 20);
        x.coaled(7);
        // 4 of 2: 0 of 0 or 1, 1 of 1. 5 of 2 is more.
        Check.row("4 of 2 are the least", x, 0, 1, 2, 1, 1, 16);
        store(x, 4, 3, 20);
        x.coaled(7);
        Check.row("9 of 2", x, 0, 2, 2, 1, 3, 11);
    }

    /** ".. then of 1" */
    private static void coaledTheLeastOfOne() {
        EnginesAsleep x = of(2);
        x.wants(0, 3, 0);
        x.wants(1, 5, 0);
        store(x, 7, 20, 20);
        x.coaled(3);
        Check.row("3 of 1, not 5", x, 1, 0, 2, 17, 20);
        store(x, 4, 20, 20);
        x.coaled(3);
        Check.row("5 of 1, as 5 are not there of 0", x, 0, 1, 1, 15, 20);
        store(x, 2, 20, 20);
        x.coaled(3);
        Check.row("8 of 1", x, 1, 1, 2, 12, 20);
        store(x, 2, 5, 20);
        x.coaled(3);
        Check.row("3 of 2, 5 of 1", x, 2, 1, 2, 0, 17);
        store(x, 3, 5, 20);
        x.coaled(3);
        Check.row("none of 2", x, 0, 1, 0, 0, 20);
    }

    /** "of equal ones the least row" */
    private static void coaledOfEqualOnes() {
        EnginesAsleep x = of(7);
        for (int e = 0; e < 7; e++) {
            x.wants(e, 10, 0);
        }
        store(x, 30, 20, 20);
        Check.due("seven", x.coaled(127), 70);
        Check.row("seven", x, 0, 0, 0, 1, 1, 2, 2, 0, 0, 0);
        x.wants(0, 10, 2);
        x.coaled(127);
        Check.row("the first of 2", x, 2, 0, 0, 0, 1, 1, 2, 0, 0, 0);
        x.wants(6, 0, 0);
        x.coaled(127);
        Check.row("the last wants none", x, 2, 0, 0, 0, 1, 1, 0, 0, 0, 10);
    }

    /** One that WANTS none takes of nothing, so no GRADE is too short for it: it has its own. */
    private static void coaledThatWantsNone() {
        EnginesAsleep x = of(3);
        for (int g = 0; g < 3; g++) {
            x.wants(g, 0, g);
            x.coal(g, g, g + 1);
        }
        Check.due("all are short", x.coaled(7), 0);
        Check.row("all are short", x, 0, 1, 2, 0, 1, 2);
        x.wants(0, 1, 0);
        Check.due("one takes 1", x.coaled(7), -2);
        x.coal(2, 4, 3);
        Check.due("one takes 1 of 2", x.coaled(7), 1);
        Check.row("one takes 1 of 2", x, 2, 1, 2, 0, 1, 3);
    }

    /** "-2: it can't be" */
    private static void coaledThatCannotBe() {
        Busy.leaves("40 of 12", -2, Busy::made, x -> x.coaled(4));
        Busy.leaves("one of three can't", -2, Busy::made, x -> x.coaled(7));
        Busy.leaves("none is there", -2, () -> {
            EnginesAsleep x = Busy.made();
            x.coal(0, 0, 0);
            x.coal(1, 0, 0);
            x.coal(2, 0, 0);
            return x;
        }, x -> x.coaled(1));
    }

    /** "-2, NONE likewise." */
    private static void fillOfOthers() {
        Busy.refused("none told", x -> x.fill(0));
        Busy.refused("none such", x -> x.fill(32));
        Busy.refused("one and none such", x -> x.fill(1 | 32));
        Busy.refused("all bits", x -> x.fill(-1));
        Busy.refused("eight of twelve", () -> {
            EnginesAsleep x = Busy.made();
            for (int e = 5; e < 12; e++) {
                x.engine(5, 1, 0, false);
            }
            return x;
        }, x -> x.fill(255));
        EnginesAsleep x = of(7);
        Check.due("seven", x.fill(127), 0);
    }

    /** "As coaled(); and it is taken." */
    private static void fillTakesIt() {
        EnginesAsleep x = of(3);
        x.wants(0, 3, 0);
        x.wants(1, 5, 0);
        x.wants(2, 4, 1);
        x.coal(0, 6, 1);
        x.coal(1, 8, 2);
        x.coal(2, 20, 7);
        Check.due("asked", x.coaled(7), 12);
        Check.row("asked", x, 2, 0, 1, 1, 4, 17);
        Check.due("taken", x.fill(7), 12);
        Check.row("taken", x, 2, 0, 1, 1, 4, 17);
        Check.due("0 and 1 again, of 2", x.fill(3), 8);
        Check.row("0 and 1 again, of 2", x, 2, 2, 1, 4, 9);
        Check.due("0 again: 7 have to stay", x.fill(1), -2);
        Check.due("what is there of 0", x.coal(0, 0, 0), 1);
        Check.due("what is there of 1", x.coal(1, 0, 0), 4);
        Check.due("what is there of 2", x.coal(2, 0, 0), 9);
    }

    private static void fillToTheLastTon() {
        EnginesAsleep x = of(1);
        x.wants(0, 40, 0);
        x.coal(0, 120, 0);
        x.coal(1, 79, 39);
        for (int i = 0; i < 3; i++) {
            Check.due("40 of 0", x.fill(1), 40);
            Check.row("40 of 0", x, 0, 80 - 40 * i, 79, 0);
        }
        Check.due("40 of 1", x.fill(1), 40);
        Check.row("40 of 1", x, 1, 0, 39, 0);
        Check.due("39 have to stay", x.fill(1), -2);
        Check.row("the row stays", x, 1, 0, 39, 0);
        x.wants(0, 0, 0);
        Check.due("none of none", x.fill(1), 0);
    }

    private static void fillThatCannotBe() {
        Busy.leaves("40 of 12", -2, Busy::made, x -> x.fill(4));
        Busy.leaves("one of three can't", -2, Busy::made, x -> x.fill(7));
    }

    /** "(1 to 7)", "NONE: others." */
    private static void burnsOfOthers() {
        Busy.refused("none told", x -> x.burns(0));
        Busy.refused("none such", x -> x.burns(32));
        Busy.refused("one and none such", x -> x.burns(1 | 32));
        Busy.refused("all bits", x -> x.burns(-1));
        EnginesAsleep x = of(12);
        Check.due("eight", x.burns(255), -1);
        Check.due("twelve", x.burns(4095), -1);
        Check.due("seven", x.burns(127), 7);
        Check.row("seven", x, 127);
        Check.due("seven, high ones", x.burns(127 << 5), 7);
        Check.row("seven, high ones", x, 127 << 5);
        Check.due("the last one", x.burns(1 << 11), 1);
        Check.row("the last one", x, 1 << 11);
    }

    /** "the most that can be coaled so together" */
    private static void burnsTheMost() {
        EnginesAsleep x = of(12);
        for (int e = 0; e < 12; e++) {
            x.wants(e, e < 6 ? 20 : 5, e % 3);
        }
        x.coal(0, 30, 10);
        x.coal(1, 12, 2);
        x.coal(2, 5, 1);
        // 6 and 9 want 0, 7 and 10 want 1, 8 and 11 want 2; of 0 there are 20 to take, of 1 10, of 2 4.
        Check.due("four of these", x.burns(0b111111000000), 4);
        Check.row("four of these", x, 0b011011000000);
        Check.due("0 takes 20 of 0, 6 and 7 take 10 of 1", x.burns(0b000011000001), 3);
        x.coal(1, 11, 2);
        Check.due("9 of 1", x.burns(0b000011000001), 2);
        Check.row("9 of 1: 0 and 6 are the least", x, 0b000001000001);
        x.coal(0, 35, 10);
        Check.due("25 of 0", x.burns(0b000011000001), 3);
        Check.row("25 of 0", x, 0b000011000001);
    }

    /** "they as bits, of as many the least" */
    private static void burnsTheLeastBits() {
        EnginesAsleep x = of(12);
        for (int e = 0; e < 12; e++) {
            x.wants(e, 5, 0);
        }
        x.coal(0, 14, 0);
        Check.due("two of seven", x.burns(127 << 3), 2);
        Check.row("two of seven", x, 3 << 3);
        x.wants(3, 10, 0);
        Check.due("not the greedy one", x.burns(127 << 3), 2);
        Check.row("not the greedy one", x, 6 << 3);
        x.wants(3, 9, 0);
        Check.due("just enough for it", x.burns(127 << 3), 2);
        Check.row("just enough for it", x, 3 << 3);
        x.wants(11, 0, 2);
        Check.due("one that wants none is had too", x.burns(1 << 11 | 7), 3);
        Check.row("one that wants none is had too", x, 1 << 11 | 3);
    }

    /** None can: 0, and no bits. */
    private static void burnsNone() {
        EnginesAsleep x = of(3);
        for (int e = 0; e < 3; e++) {
            x.wants(e, 1, 0);
        }
        Check.due("none is there", x.burns(7), 0);
        Check.row("none is there", x, 0);
        x.coal(0, 5, 5);
        Check.due("all has to stay", x.burns(7), 0);
        Check.row("all has to stay", x, 0);
        x.coal(0, 5, 4);
        Check.due("one ton", x.burns(7), 1);
        Check.row("one ton", x, 1);
    }

    /** "Nothing changes." */
    private static void onlyAsk() {
        Busy.onlyAsks("coaled", x -> x.coaled(3));
        Busy.onlyAsks("coaled that can't be", x -> x.coaled(4));
        Busy.onlyAsks("burns", x -> x.burns(7));
    }
}
