/** Promises 49 to 53 and the ROW of the Terms, sentence by sentence. */
public final class KeptEdgesTest {
    private static final int[] WILD = {Integer.MIN_VALUE, Integer.MIN_VALUE + 1, -1000, 1000, 1 << 30, Integer.MAX_VALUE};

    public static void main(String[] args) {
        keepOfOthers();
        keepUnderEach();
        keepTellsNoRow();
        againOfOthers();
        againOfNothingKept();
        againWhereTheyAre();
        againWhatIsLit();
        againWhatIsDead();
        againNow();
        againNotTheRest();
        againMoreThanOnce();
        spoiltByARing();
        spoiltByAStall();
        spoiltBySheets();
        spoiltByAnEngine();
        spoiltByTwo();
        notSpoiltByRefusedCalls();
        notSpoiltByOthers();
        spoiltOnesAlone();
        countOfOthers();
        countOfEach();
        countOfBits();
        countOfTheRow();
        insideOfOthers();
        insideOfNoneToTwo();
        rowOfNoneSuch();
        rowOfTheLongest();
        rowIsToldByThoseThatSaySo();
        manyCalls();
        Check.end();
    }

    private static EnginesAsleep lit(int... lengths) {
        EnginesAsleep x = new EnginesAsleep();
        for (int e = 0; e < lengths.length; e++) {
            x.engine(lengths[e], 1, 0, false);
            x.light(e);
        }
        return x;
    }

    /** "under a number 0 .. 2", "Refused: others." */
    private static void keepOfOthers() {
        Busy.denied("keep(-1)", x -> x.keep(-1));
        Busy.denied("keep(3)", x -> x.keep(3));
        for (int v : WILD) {
            Busy.denied("keep(" + v + ")", x -> x.keep(v));
        }
    }

    private static void keepUnderEach() {
        EnginesAsleep x = lit(10);
        for (int i = 0; i < 3; i++) {
            x.pass(i + 1);
            Check.due("keep(" + i + ")", x.keep(i), true);
        }
        x.pass(100);
        int[] now = {1, 3, 6};
        for (int i = 0; i < 3; i++) {
            Check.due("again(" + i + ")", x.again(i), true);
            Check.due("NOW of " + i, x.count(2), now[i]);
        }
        x.keep(0);
        x.pass(1);
        x.again(0);
        Check.due("kept anew under 0", x.count(2), 6);
        x.again(1);
        Check.due("1 as it was kept", x.count(2), 3);
    }

    /** "true": and nothing changes, the ROW neither. */
    private static void keepTellsNoRow() {
        Busy.leaves("keep what is kept already", 1, Busy::made, x -> x.keep(1) ? 1 : 0);
        EnginesAsleep x = Busy.made();
        x.keep(2);
        Check.row("keep", x, 0, 2);
        x.again(0);
        Check.row("again", x, 0, 2);
    }

    private static void againOfOthers() {
        Busy.denied("again(-1)", x -> x.again(-1));
        Busy.denied("again(3)", x -> x.again(3));
        for (int v : WILD) {
            Busy.denied("again(" + v + ")", x -> x.again(v));
        }
    }

    /** "Refused: nothing kept" */
    private static void againOfNothingKept() {
        Busy.denied("nothing under 2", x -> x.again(2));
        EnginesAsleep x = new EnginesAsleep();
        for (int i = 0; i < 3; i++) {
            Check.due("nothing under " + i, x.again(i), false);
        }
        x.keep(1);
        Check.due("nothing under 0", x.again(0), false);
        Check.due("nothing under 2", x.again(2), false);
        Check.due("under 1", x.again(1), true);
    }

    /** "Where ENGINES and THE TABLE are" */
    private static void againWhereTheyAre() {
        EnginesAsleep x = lit(10, 10, 10);
        x.move(0, 5);
        x.move(1, 5);
        x.keep(0);
        x.move(1, 3);
        x.move(0, 3);
        x.move(2, 5);
        x.keep(1);
        Check.due("again", x.again(0), true);
        Check.due("0", x.of(0, 0), 5);
        Check.due("1", x.of(1, 0), 5);
        Check.due("2", x.of(2, 0), 11);
        x.inside(5);
        Check.row("0 at the back, 1 at the front", x, 0, 1);
        Check.due("none in 3", x.inside(3), 0);
        Check.due("the table", x.count(3), 5);
        Check.due("in stalls", x.count(7), 3);
        x.again(1);
        x.inside(3);
        Check.row("1 at the back, 0 at the front", x, 1, 0);
        x.inside(5);
        Check.row("2 alone", x, 2);
        EnginesAsleep y = lit(10);
        y.move(0, 4);
        y.keep(0);
        y.move(0, 11);
        y.again(0);
        Check.due("the table at 4", y.count(3), 4);
        y.move(0, 11);
        y.keep(0);
        y.move(0, 4);
        y.again(0);
        Check.due("the table at the road", y.count(3), 11);
    }

    /** "what is LIT" and since when */
    private static void againWhatIsLit() {
        EnginesAsleep x = new EnginesAsleep();
        x.engine(10, 1, 0, false);
        x.engine(10, 1, 0, false);
        x.pass(5);
        x.light(0);
        x.pass(5);
        x.keep(0);
        x.drop(0);
        x.light(1);
        x.pass(5);
        x.light(0);
        x.again(0);
        Check.due("0 since 5", x.of(0, 3), 5);
        Check.due("1 is not", x.of(1, 3), -1);
        Check.due("bits", x.count(8), 1);
        Check.due("0 was lit for 5", x.drop(0), 5);
    }

    private static void againWhatIsDead() {
        EnginesAsleep x = lit(10, 10);
        x.dead(0, true);
        x.keep(0);
        x.dead(0, false);
        x.dead(1, true);
        x.again(0);
        Check.due("0 is dead, 1 is not", x.count(9), 1);
        Check.due("1 goes", x.move(1, 0), 5);
        Check.due("0 does not", x.move(0, 0), -1);
    }

    private static void againNow() {
        EnginesAsleep x = lit(10);
        x.pass(600);
        x.keep(0);
        x.pass(600);
        x.move(0, 0);
        x.again(0);
        Check.due("NOW", x.count(2), 600);
        Check.due("from then on", x.pass(1), 601);
    }

    /** "(not COAL)", nor anything else that is not named */
    private static void againNotTheRest() {
        EnginesAsleep x = lit(10, 10);
        x.keep(0);
        x.coal(0, 30, 3);
        x.wants(0, 7, 0);
        x.set(0, 3);
        x.set(1, 4);
        x.shut(2, true);
        x.train(50, 0, 1);
        x.plan(0, 1);
        x.comes(0);
        x.leaves(0);
        Check.rule(x, "n<7");
        Check.text(x, "123");
        x.inside(0);
        Check.due("again", x.again(0), true);
        Check.row("the row", x);
        Check.due("coal", x.fill(1), 7);
        Check.due("again behind fill()", x.again(0), true);
        Check.due("coal that is taken", x.coal(0, 0, 0), 23);
        Check.due("TURN", x.set(0, 1), 3);
        Check.due("GO", x.set(1, 2), 4);
        Check.due("shut", x.takes(2, 0), 0);
        Check.due("the rule", x.takes(7, 0), 0);
        Check.due("trains", x.count(4), 1);
        Check.due("the plan", x.plan(0, 1), true);
        x.morning();
        Check.row("the plan", x, 0);
        Check.due("who comes", x.count(5), 1);
        Check.due("who leaves", x.count(6), 1);
        Check.due("the text", x.count(11), 3);
    }

    private static void againMoreThanOnce() {
        EnginesAsleep x = lit(10);
        x.keep(0);
        for (int i = 0; i < 5; i++) {
            x.move(0, i);
            Check.due("again", x.again(0), true);
            Check.due("on the road", x.of(0, 0), 11);
            Check.due("NOW", x.count(2), 0);
        }
        x.move(0, 7);
        x.again(0);
        x.move(0, 8);
        Check.due("what is kept is not what goes on", x.again(0), true);
        Check.due("on the road again", x.of(0, 0), 11);
    }

    /** "a ring() .. since that was taken" */
    private static void spoiltByARing() {
        EnginesAsleep x = lit(10);
        x.keep(0);
        x.ring(12);
        Check.due("another ring", x.again(0), false);
        x.ring(11);
        Check.due("as many as before", x.again(0), false);
        x.keep(0);
        Check.due("kept since", x.again(0), true);
        x.ring(11);
        Check.due("a ring of as many", x.again(0), false);
        Check.due("nothing changed", x.count(2), 0);
    }

    /** "stall()" */
    private static void spoiltByAStall() {
        EnginesAsleep x = lit(10);
        x.keep(0);
        x.stall(3, 30, 3);
        Check.due("a stall as it was", x.again(0), false);
        x.keep(0);
        Check.due("kept since", x.again(0), true);
        x.stall(3, 40, 1);
        Check.due("another stall", x.again(0), false);
    }

    /** "sheet()": of each kind, but not one that changes nothing. */
    private static void spoiltBySheets() {
        for (int kind = 0; kind < 4; kind++) {
            EnginesAsleep x = lit(10);
            x.keep(0);
            x.sheet(kind, 0, 30, 0);
            Check.due("a sheet of kind " + kind, x.again(0), false);
            x.keep(0);
            Check.due("kept since", x.again(0), true);
            Check.due("no sheet", x.sheet(kind, 12, 30, 0), -1);
            Check.due("a refused one does not count", x.again(0), true);
            if (kind < 3) {
                Check.due("n below 0", x.sheet(kind, -1, 30, 0), -2);
                Check.due("nothing changes by it", x.again(0), true);
            }
        }
    }

    /** "or engine()" */
    private static void spoiltByAnEngine() {
        EnginesAsleep x = lit(10);
        x.keep(0);
        x.keep(1);
        x.engine(10, 1, 0, false);
        Check.due("an engine", x.again(0), false);
        Check.due("under 1 too", x.again(1), false);
        x.keep(1);
        Check.due("kept since", x.again(1), true);
        Check.due("under 0 it was not", x.again(0), false);
    }

    private static void spoil(EnginesAsleep x, int how) {
        switch (how) {
            case 0: x.ring(11); break;
            case 1: x.stall(3, 30, 3); break;
            case 2: x.sheet(2, 1, 30, 0); break;
            case 3: x.sheet(3, 0, 0, 0); break;
            default: x.engine(10, 1, 0, false); break;
        }
    }

    /** One of them, then another: what was kept is as little good as behind one. */
    private static void spoiltByTwo() {
        for (int first = 0; first < 5; first++) {
            for (int second = 0; second < 5; second++) {
                EnginesAsleep x = lit(10);
                x.keep(0);
                spoil(x, first);
                x.keep(1);
                spoil(x, second);
                Check.due("behind " + first + " and " + second, x.again(0), false);
                Check.due("behind " + second, x.again(1), false);
                x.keep(2);
                Check.due("kept behind both", x.again(2), true);
                Check.due("behind both and again(2)", x.again(0), false);
            }
        }
    }

    /** "Refused calls .. change nothing" */
    private static void notSpoiltByRefusedCalls() {
        EnginesAsleep x = Busy.made();
        x.ring(3);
        x.ring(6);
        x.stall(-1, 30, 3);
        x.stall(6, 30, 3);
        x.stall(1, 17, 3);
        x.stall(0, 61, 3);
        x.stall(0, 30, 4);
        x.sheet(4, 0, 0, 0);
        x.sheet(0, 0, 30, 0);
        x.engine(4, 1, 1, false);
        x.engine(10, 6, 1, false);
        Check.due("0", x.again(0), true);
        Check.due("1", x.again(1), true);
        EnginesAsleep y = lit(5, 5, 5, 5, 5, 5, 5, 5, 5, 5, 5, 5);
        y.keep(0);
        Check.due("a thirteenth", y.engine(5, 1, 1, false), -1);
        Check.due("it does not count", y.again(0), true);
    }

    private static void notSpoiltByOthers() {
        EnginesAsleep x = Busy.made();
        x.shut(0, true);
        x.set(0, 9);
        x.light(3);
        x.drop(4);
        x.dead(0, true);
        x.pass(9);
        x.move(1, 2);
        x.train(9, 1, 1);
        x.plan(2, 1);
        x.coal(0, 1, 1);
        x.wants(0, 1, 1);
        x.rule();
        x.nobody();
        x.comes(4);
        x.put();
        x.morning();
        x.keep(2);
        Check.due("0", x.again(0), true);
        Check.due("1", x.again(1), true);
        Check.due("2", x.again(2), true);
    }

    /** "since that was taken": what was taken behind it is good. */
    private static void spoiltOnesAlone() {
        EnginesAsleep x = lit(10);
        x.keep(0);
        x.stall(3, 40, 3);
        x.keep(1);
        x.pass(5);
        Check.due("0 was taken ahead of it", x.again(0), false);
        Check.due("nothing changed", x.count(2), 5);
        Check.due("1 was taken behind it", x.again(1), true);
        Check.due("NOW", x.count(2), 0);
        Check.due("0 is not good by that", x.again(0), false);
    }

    /** "NONE for another what." */
    private static void countOfOthers() {
        Busy.refused("count(-1)", x -> x.count(-1));
        Busy.refused("count(12)", x -> x.count(12));
        for (int v : WILD) {
            Busy.refused("count(" + v + ")", x -> x.count(v));
        }
    }

    private static void countOfEach() {
        EnginesAsleep x = new EnginesAsleep();
        int[] first = {11, 0, 0, 11, 0, 0, 0, 0, 0, 0, 0, 0};
        for (int what = 0; what < 12; what++) {
            Check.due("at first count(" + what + ")", x.count(what), first[what]);
        }
        EnginesAsleep y = Busy.made();
        int[] due = {6, 5, 62, 4, 3, 2, 1, 13, 23, 8, 2, 3};
        for (int what = 0; what < 12; what++) {
            Check.due("count(" + what + ")", y.count(what), due[what]);
        }
    }

    /** "7: ENGINES in STALLS (bits), 8: LIT ones (bits), 9: DEAD ones (bits)" of up to twelve */
    private static void countOfBits() {
        EnginesAsleep x = new EnginesAsleep();
        for (int e = 0; e < 12; e++) {
            x.engine(5, 1, 0, false);
        }
        for (int e = 0; e < 12; e++) {
            x.light(e);
            Check.due("lit", x.count(8), (1 << e + 1) - 1);
        }
        for (int e = 0; e < 12; e++) {
            x.move(e, e % 11);
            Check.due("in stalls", x.count(7), (1 << e + 1) - 1);
        }
        for (int e = 0; e < 12; e++) {
            x.dead(e, true);
            Check.due("dead", x.count(9), (1 << e + 1) - 1);
        }
        x.drop(11);
        x.dead(11, false);
        Check.due("lit but one", x.count(8), 2047);
        Check.due("dead but one", x.count(9), 2047);
        Check.due("in stalls all", x.count(7), 4095);
    }

    /** "10: numbers of the ROW, 11: signs of THE TEXT" */
    private static void countOfTheRow() {
        EnginesAsleep x = lit(10, 10);
        x.room(3);
        Check.due("two", x.count(10), 2);
        x.room(1);
        Check.due("one", x.count(10), 1);
        x.inside(0);
        Check.due("none", x.count(10), 0);
        x.coaled(3);
        Check.due("five", x.count(10), 5);
        for (int i = 1; i <= 15; i++) {
            x.sign(0);
            Check.due("signs", x.count(11), 4 * i);
        }
    }

    /** "NONE: none such." */
    private static void insideOfOthers() {
        Busy.refused("inside(-1)", x -> x.inside(-1));
        Busy.refused("inside(6), the road", x -> x.inside(6));
        Busy.refused("inside(7)", x -> x.inside(7));
        for (int v : WILD) {
            Busy.refused("inside(" + v + ")", x -> x.inside(v));
        }
    }

    /** "how many; the ROW: the one at the BACK, then the one at the FRONT (none without)" */
    private static void insideOfNoneToTwo() {
        EnginesAsleep x = lit(10, 10, 10);
        x.room(7);
        Check.due("none", x.inside(10), 0);
        Check.row("none", x);
        x.move(2, 10);
        Check.due("one", x.inside(10), 1);
        Check.row("one", x, 2);
        x.move(0, 10);
        Check.due("two", x.inside(10), 2);
        Check.row("the back one first", x, 2, 0);
        x.move(0, 0);
        Check.due("the front one went", x.inside(10), 1);
        Check.row("the front one went", x, 2);
        Check.due("it is alone", x.inside(0), 1);
        Check.row("it is alone", x, 0);
        Busy.onlyAsks("inside", y -> y.inside(1));
    }

    /** "NoSuchElementException: none such." */
    private static void rowOfNoneSuch() {
        EnginesAsleep x = Busy.made();
        Check.due("row(0)", x.row(0), 0);
        Check.due("row(1)", x.row(1), 2);
        Check.rowThrows(x, 2);
        Check.rowThrows(x, -1);
        for (int v : WILD) {
            Check.rowThrows(x, v);
        }
        Check.same("row() that throws", Busy.all(Busy.made(), true), Busy.all(x, true));
        EnginesAsleep y = new EnginesAsleep();
        Check.rowThrows(y, 0);
        Check.rowThrows(y, -1);
        EnginesAsleep z = Busy.made();
        z.inside(0);
        Check.rowThrows(z, 0);
        z.inside(4);
        Check.due("one number", z.row(0), 3);
        Check.rowThrows(z, 1);
    }

    /** The longest ROW, of twelve numbers, then a short one: what stood behind is gone. */
    private static void rowOfTheLongest() {
        EnginesAsleep x = lit(5, 5, 5, 5, 5, 5, 5, 5, 5, 5, 5, 5);
        x.ring(12);
        Check.due("twelve", x.room(4095), 12);
        for (int i = 0; i < 12; i++) {
            Check.due("row(" + i + ")", x.row(i), i);
        }
        Check.rowThrows(x, 12);
        x.frost(0);
        Check.rowThrows(x, 1);
        for (int e = 0; e < 7; e++) {
            x.wants(e, 0, 2);
        }
        x.coaled(127);
        Check.row("ten numbers", x, 2, 2, 2, 2, 2, 2, 2, 0, 0, 0);
        for (int t = 0; t < 8; t++) {
            x.train(2000, 0, 1);
        }
        x.fails(11);
        Check.row("nine numbers", x, 8, 0, 1, 2, 3, 4, 5, 6, 7);
    }

    /** "numbers told last by a call that says so": by no other one. */
    private static void rowIsToldByThoseThatSaySo() {
        EnginesAsleep x = Busy.made();
        x.steps(0, 3);
        x.shut(0, false);
        x.set(0, 2);
        x.sign(0);
        x.end(0);
        x.rule();
        x.light(3);
        x.drop(3);
        x.dead(3, true);
        x.of(0, 0);
        x.takes(0, 1);
        x.smoke();
        x.pass(1);
        x.move(1, 3);
        x.drag(1, 4, 6);
        x.leaves(4);
        x.nobody();
        x.comes(4);
        x.coal(0, 5, 5);
        x.wants(0, 1, 1);
        x.train(900, 1, 1);
        x.plan(3, 1);
        x.fits(1, 1);
        x.wrong();
        x.men(5);
        x.keep(0);
        x.again(0);
        x.count(10);
        x.row(1);
        x.stall(0, 33, 2);
        x.engine(10, 1, 1, false);
        Check.row("as inside(1) told it", x, 0, 2);
        EnginesAsleep y = Busy.allOut();
        y.room(2 | 4);
        int first = y.row(0);
        y.ring(9);
        y.sheet(2, 1, 30, 0);
        y.sheet(3, 1, 30, 0);
        Check.due("as room() told it", y.row(0), first);
        Check.due("two numbers", y.count(10), 2);
    }

    /** "at most 512 calls": so many are good. */
    private static void manyCalls() {
        EnginesAsleep x = new EnginesAsleep();
        for (int i = 1; i < 511; i++) {
            x.pass(600);
        }
        x.engine(10, 1, 0, false);
        Check.due("the last call", x.count(2), 510 * 600);
        EnginesAsleep y = lit(10, 10);
        y.set(0, 9);
        y.set(1, 9);
        for (int i = 0; i < 500; i++) {
            y.drag(0, 1, i % 2 == 0 ? 5 : 11);
        }
        Check.due("NOW", y.count(2), 250 * 2 * (54 + 18) + 250 * 2 * (54 + 18));
    }
}
