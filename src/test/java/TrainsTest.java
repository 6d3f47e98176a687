/** Promises 35 to 43: trains, THE PLAN, and who fits. */
public final class TrainsTest {
    public static void main(String[] args) {
        train();
        plan();
        fits();
        most();
        fails();
        soonest();
        wrong();
        exchange();
        crews();
        Check.end();
    }

    private static void train() {
        EnginesAsleep x = new EnginesAsleep();
        int[][] bad = {{-1, 0, 1}, {2001, 0, 1}, {0, -1, 1}, {0, 6, 1}, {0, 0, 0}, {0, 0, 601}};
        for (int[] b : bad) {
            Check.due("train of others", x.train(b[0], b[1], b[2]), -1);
        }
        Check.due("none yet", x.count(4), 0);
        Check.due("the least", x.train(0, 0, 1), 0);
        Check.due("the greatest", x.train(2000, 5, 600), 1);
        for (int i = 2; i < 8; i++) {
            Check.due("train", x.train(100, 1, 10), i);
        }
        Check.due("a ninth", x.train(100, 1, 10), -1);
        Check.due("eight", x.count(4), 8);
    }

    private static void plan() {
        EnginesAsleep x = new EnginesAsleep();
        x.engine(10, 0, 600, false);
        x.engine(10, 0, 0, false);
        x.train(0, 5, 1);
        x.train(0, 5, 1);
        Check.due("no such train", x.plan(2, 0), false);
        Check.due("train -1", x.plan(-1, 0), false);
        Check.due("no such engine", x.plan(0, 2), false);
        Check.due("engine -2", x.plan(0, -2), false);
        Check.due("one that does not fit", x.plan(0, 0), true);
        Check.due("the same again", x.plan(0, 0), true);
        Check.due("it has another train", x.plan(1, 0), false);
        Check.due("none for a train", x.plan(0, -1), true);
        Check.due("now it may", x.plan(1, 0), true);
        Check.due("another one instead", x.plan(1, 1), true);
        Check.due("the first is free again", x.plan(0, 0), true);
        Check.due("refused", x.plan(0, 1), false);
        x.dead(0, true);
        x.morning();
        Check.row("and nothing changed", x, -1, 0);
    }

    private static void fits() {
        EnginesAsleep x = new EnginesAsleep();
        x.engine(10, 2, 30, false);
        x.train(30, 2, 10);
        x.train(29, 2, 10);
        x.train(100, 3, 10);
        Check.due("no such engine", x.fits(1, 0), -1);
        Check.due("engine -1", x.fits(-1, 0), -1);
        Check.due("no such train", x.fits(0, 3), -1);
        Check.due("train -1", x.fits(0, -1), -1);
        Check.due("just in steam, lit now", x.fits(0, 0), 1);
        Check.due("a minute too late", x.fits(0, 1), 0);
        Check.due("class too low", x.fits(0, 2), 0);
        x.dead(0, true);
        Check.due("dead", x.fits(0, 0), 0);
        x.dead(0, false);
        x.pass(1);
        Check.due("lit a minute later", x.fits(0, 0), 0);
        x.train(61, 0, 10);
        x.light(0);
        x.pass(100);
        Check.due("it was lit in time", x.fits(0, 3), 1);
        x.drop(0);
        Check.due("not lit, and the train is gone", x.fits(0, 3), 0);
    }

    private static void most() {
        EnginesAsleep x = new EnginesAsleep();
        Check.due("no trains", x.most(), 0);
        Check.row("no trains", x);
        x.train(50, 1, 1);
        Check.due("no engines", x.most(), 0);
        Check.row("no engines", x, -1);
        x.engine(10, 5, 0, false);
        x.engine(10, 1, 0, false);
        x.train(50, 5, 1);
        Check.due("each its own", x.most(), 2);
        Check.row("each its own", x, 1, 0);
        x.train(50, 1, 1);
        Check.due("two of three", x.most(), 2);
        Check.row("the least row: none first", x, -1, 0, 1);
        x.plan(0, 0);
        Check.due("the plan does not count", x.most(), 2);
        Check.row("the plan does not count", x, -1, 0, 1);
        x.dead(0, true);
        Check.due("one of three", x.most(), 1);
        Check.row("one of three", x, -1, -1, 1);
    }

    private static void fails() {
        EnginesAsleep x = new EnginesAsleep();
        for (int e = 0; e < 4; e++) {
            x.engine(10, e, 0, false);
        }
        x.train(50, 0, 1);
        x.train(50, 1, 1);
        x.train(50, 2, 1);
        Check.due("none such", x.fails(4), -1);
        Check.due("engine -1", x.fails(-1), -1);
        x.plan(0, 1);
        x.plan(1, 2);
        x.plan(2, 3);
        Check.due("one that is not planned fails", x.fails(0), 0);
        Check.row("one that is not planned fails", x, 3, 1, 2, 3);
        Check.due("1 fails: 0 for it", x.fails(1), 1);
        Check.row("1 fails: 0 for it", x, 3, 0, 2, 3);
        Check.due("2 fails: 1 for it, 0 for that", x.fails(2), 2);
        Check.row("2 fails: 1 for it, 0 for that", x, 3, 0, 1, 3);
        Check.due("3 fails: all change", x.fails(3), 3);
        Check.row("3 fails: all change", x, 3, 0, 1, 2);
        x.dead(0, true);
        Check.due("3 fails, 0 is dead: the fewest change", x.fails(3), 1);
        Check.row("3 fails, 0 is dead: the fewest change", x, 2, 1, 2, -1);
        x.plan(2, -1);
        Check.due("no engine fails the plan: the most are had", x.fails(0), 1);
        Check.row("no engine fails the plan: the most are had", x, 3, 1, 2, 3);
        x.dead(3, true);
        x.dead(2, true);
        Check.due("a planned one is dead", x.fails(0), 1);
        Check.row("a planned one is dead", x, 1, 1, -1, -1);
        x.dead(2, false);
        x.dead(3, false);
        x.dead(0, false);
        Check.due("the plan stays", x.fails(1), 2);
        Check.row("the plan stays", x, 3, 0, 2, 3);
    }

    private static void soonest() {
        EnginesAsleep x = new EnginesAsleep();
        for (int e = 0; e < 4; e++) {
            x.engine(10, e, 0, false);
            x.light(e);
        }
        x.train(100, 1, 10);
        x.train(100, 5, 10);
        x.inside(0);
        Check.due("no such train", x.soonest(2), -1);
        Check.due("train -1", x.soonest(-1), -1);
        Check.due("none fits", x.soonest(1), -2);
        Check.row("the row stays", x);
        Check.due("the first on the road that fits", x.soonest(0), 1);
        Check.row("0 minutes", x, 0);
        x.move(1, 5);
        x.move(2, 3);
        x.move(3, 2);
        Check.due("the nearest", x.soonest(0), 3);
        Check.row("the nearest", x, 3 + 4);
        x.dead(3, true);
        Check.due("the next", x.soonest(0), 2);
        Check.row("the next", x, 1 + 4 + 4);
        x.dead(2, true);
        x.move(0, 5);
        Check.due("one in front goes aside", x.soonest(0), 1);
        Check.row("one in front goes aside", x, 5 + 11);
        x.drop(0);
        Check.due("the one in front can't go", x.soonest(0), -2);
        Check.row("the row stays again", x, 16);
        x.engine(10, 5, 10, false);
        Check.due("a cold one on the road", x.soonest(0), 4);
        Check.row("a cold one on the road", x, 0);
    }

    private static void wrong() {
        EnginesAsleep x = new EnginesAsleep();
        for (int e = 0; e < 4; e++) {
            x.engine(10, 1, 0, false);
            x.light(e);
        }
        x.move(0, 1);
        x.move(1, 1);
        x.move(2, 2);
        x.move(3, 2);
        Check.due("none planned", x.wrong(), 0);
        x.train(100, 0, 1);
        x.train(100, 0, 1);
        x.train(200, 0, 1);
        x.train(50, 0, 1);
        x.plan(0, 0);
        Check.due("the one in front has no train", x.wrong(), 1);
        x.plan(1, 1);
        Check.due("of the same minute", x.wrong(), 0);
        x.plan(1, -1);
        x.plan(2, 1);
        Check.due("of a later minute", x.wrong(), 1);
        x.plan(3, 2);
        Check.due("two of them", x.wrong(), 5);
        x.plan(0, -1);
        Check.due("a front one planned alone", x.wrong(), 4);
        x.move(3, 3);
        Check.due("none in front any more", x.wrong(), 0);
    }

    private static void exchange() {
        EnginesAsleep x = new EnginesAsleep();
        x.inside(0);
        Check.due("no trains", x.exchange(), 0);
        for (int e = 0; e < 3; e++) {
            x.engine(10, 1, 0, false);
            x.light(e);
        }
        x.move(0, 5);
        x.move(1, 5);
        x.pass(4);
        // Now 30, the table at 5: 1 goes out in 10, then 0 in 16; 0 first: 5 and 11, then 1 from stall 4.
        x.train(40, 0, 1);
        x.train(56, 0, 1);
        x.plan(0, 0);
        x.plan(1, 1);
        int before = x.morning();
        Check.due("late as planned", before > 0, true);
        Check.due("exchanged", x.exchange(), 0);
        Check.row("exchanged", x, 0, 1);
        Check.due("the plan stays", x.morning(), before);
        x.plan(0, 2);
        x.plan(1, 1);
        Check.due("none is better", x.exchange(), 0);
        Check.row("none is better", x);
        x.plan(1, -1);
        x.plan(0, 0);
        x.plan(1, 1);
        x.engine(10, 0, 0, false);
        x.train(40, 1, 1);
        x.train(56, 1, 1);
        x.plan(0, -1);
        x.plan(1, -1);
        x.plan(2, 0);
        x.plan(3, 3);
        int as = x.morning();
        Check.due("one does not fit the other's train", x.exchange(), as);
        Check.row("one does not fit the other's train", x);
    }

    private static void crews() {
        EnginesAsleep x = new EnginesAsleep();
        x.inside(0);
        Check.due("rest -1", x.crews(-1, 1), -1);
        Check.due("rest 601", x.crews(601, 1), -1);
        Check.due("duty 0", x.crews(0, 0), -1);
        Check.due("duty 2001", x.crews(0, 2001), -1);
        Check.due("the greatest", x.crews(600, 2000), 0);
        Check.due("no trains", x.crews(0, 1), 0);
        Check.row("no trains", x);
        x.train(100, 0, 50);
        x.train(150, 0, 50);
        x.train(120, 0, 10);
        x.train(140, 0, 10);
        Check.due("one behind the other", x.crews(0, 2000), 2);
        Check.row("one behind the other", x, 0, 0, 1, 1);
        Check.due("rest 1", x.crews(1, 2000), 3);
        Check.row("rest 1", x, 0, 1, 1, 2);
        Check.due("rest 10", x.crews(10, 2000), 3);
        Check.due("rest 11", x.crews(11, 2000), 3);
        Check.row("rest 11", x, 0, 1, 1, 2);
        Check.due("duty 100", x.crews(0, 100), 2);
        Check.due("duty 99", x.crews(0, 99), 2);
        Check.row("duty 99", x, 0, 1, 1, 1);
        Check.due("duty 80", x.crews(0, 80), 2);
        Check.due("duty 79", x.crews(0, 79), 3);
        Check.row("duty 79", x, 0, 1, 2, 1);
        Check.due("duty 50", x.crews(0, 50), 3);
        Check.row("duty 50", x, 0, 1, 2, 2);
        Check.due("duty 49", x.crews(0, 49), -2);
        Check.row("the row stays", x, 0, 1, 2, 2);
        Check.due("refused comes first", x.crews(601, 49), -1);
    }
}
