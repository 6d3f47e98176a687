/** Promises 30 to 34: coal. */
public final class CoalTest {
    public static void main(String[] args) {
        coal();
        wants();
        coaled();
        stays();
        shortGrade();
        wantsNothing();
        fill();
        burns();
        Check.end();
    }

    private static EnginesAsleep of(int many) {
        EnginesAsleep x = new EnginesAsleep();
        for (int e = 0; e < many; e++) {
            x.engine(10, 1, 0, false);
        }
        return x;
    }

    private static void coal() {
        EnginesAsleep x = of(1);
        int[][] wrong = {{-1, 0, 0}, {3, 0, 0}, {0, -1, 0}, {0, 1000, 0}, {0, 0, -1}, {0, 0, 1000}};
        for (int[] w : wrong) {
            Check.due("coal of others", x.coal(w[0], w[1], w[2]), -1);
        }
        Check.due("at first", x.coal(0, 999, 999), 0);
        Check.due("then", x.coal(0, 5, 0), 999);
        Check.due("another grade", x.coal(2, 7, 0), 0);
        Check.due("that again", x.coal(2, 0, 0), 7);
        Check.due("the first again", x.coal(0, 0, 0), 5);
    }

    private static void wants() {
        EnginesAsleep x = of(1);
        Check.due("none such", x.wants(1, 1, 1), false);
        Check.due("engine -1", x.wants(-1, 1, 1), false);
        Check.due("tons -1", x.wants(0, -1, 1), false);
        Check.due("tons 41", x.wants(0, 41, 1), false);
        Check.due("grade -1", x.wants(0, 1, -1), false);
        Check.due("grade 3", x.wants(0, 1, 3), false);
        Check.due("at first it wants none", x.coaled(1), 0);
        Check.row("of grade 0", x, 0, 0, 0, 0);
        Check.due("all", x.wants(0, 40, 2), true);
        Check.due("it can't be", x.coaled(1), -2);
        x.coal(2, 40, 0);
        Check.due("it can", x.coaled(1), 40);
        Check.row("it can", x, 2, 0, 0, 0);
    }

    private static void coaled() {
        EnginesAsleep x = of(12);
        Check.due("none told", x.coaled(0), -1);
        Check.due("eight told", x.coaled(255), -1);
        Check.due("none such", x.coaled(1 << 12), -1);
        Check.due("none such with one", x.coaled(1 | 1 << 31), -1);
        for (int e = 0; e < 12; e++) {
            x.wants(e, 10, 0);
        }
        x.wants(2, 10, 1);
        x.wants(3, 10, 2);
        x.coal(0, 20, 0);
        x.coal(1, 20, 0);
        x.coal(2, 20, 0);
        Check.due("one each of its own", x.coaled(0b1101), 30);
        Check.row("one each of its own", x, 0, 1, 2, 10, 10, 10);
        Check.due("three of grade 0", x.coaled(0b10011), 30);
        Check.row("the last one of a better grade", x, 0, 0, 1, 0, 10, 20);
        Check.due("five", x.coaled(0b1110011), 50);
        Check.row("the last one of the best", x, 0, 0, 1, 1, 2, 0, 0, 10);
        Check.due("six", x.coaled(0b1111011), 60);
        Check.row("all is gone", x, 0, 0, 2, 1, 1, 2, 0, 0, 0);
        Check.due("seven", x.coaled(0b1111111), -2);
        Check.row("the row stays", x, 0, 0, 2, 1, 1, 2, 0, 0, 0);
        Check.due("nothing changed", x.coal(0, 20, 0), 20);
        x.wants(0, 3, 0);
        x.wants(1, 5, 0);
        x.coal(0, 4, 0);
        x.coal(1, 7, 0);
        Check.due("the least of grade 1", x.coaled(3), 8);
        Check.row("the least of grade 1: none of it is enough for both", x, 0, 1, 1, 2, 20);
        x.coal(0, 5, 0);
        x.coaled(3);
        Check.row("3 of grade 1 are less than 5", x, 1, 0, 0, 4, 20);
    }

    private static void stays() {
        EnginesAsleep x = of(2);
        x.wants(0, 5, 0);
        x.wants(1, 5, 0);
        x.coal(0, 10, 1);
        Check.due("one has to stay", x.coaled(3), -2);
        Check.due("one alone", x.coaled(1), 5);
        x.coal(0, 11, 1);
        Check.due("just enough", x.coaled(3), 10);
        Check.row("just enough", x, 0, 0, 1, 0, 0);
        x.coal(2, 3, 4);
        Check.due("a grade nobody takes of is short", x.coaled(3), 10);
        Check.row("what is there of it is told", x, 0, 0, 1, 0, 3);
        Check.due("and all can be coaled together", x.burns(3), 2);
        Check.row("and all can be coaled together", x, 3);
    }

    /** A grade that is short is left alone by all who take of it; another one serves. */
    private static void shortGrade() {
        EnginesAsleep x = of(3);
        x.coal(0, 9, 10);
        x.coal(1, 12, 2);
        x.coal(2, 12, 12);
        x.wants(0, 4, 0);
        x.wants(1, 6, 1);
        x.wants(2, 1, 2);
        Check.due("one can take none of 2", x.coaled(7), -2);
        Check.due("the others can", x.burns(7), 2);
        Check.row("the others can", x, 3);
        Check.due("and are filled", x.fill(3), 10);
        Check.row("and are filled", x, 1, 1, 9, 2, 12);
        Check.due("0 stays as it is", x.coal(0, 0, 0), 9);
        Check.due("1 is taken of", x.coal(1, 0, 0), 2);
        Check.due("2 stays as it is", x.coal(2, 0, 0), 12);
    }

    /** One that wants 0 takes nothing, so its grade may be short: it is its own, the least row. */
    private static void wantsNothing() {
        EnginesAsleep x = of(4);
        x.coal(0, 0, 1);
        Check.due("its own is short", x.coaled(1), 0);
        Check.row("its own is short", x, 0, 0, 0, 0);
        x.coal(1, 6, 999);
        x.coal(2, 20, 21);
        Check.due("all are short", x.coaled(1), 0);
        Check.row("all are short", x, 0, 0, 6, 20);
        Check.due("all are short: fill", x.fill(1), 0);
        Check.row("all are short: fill", x, 0, 0, 6, 20);
        x.wants(1, 0, 1);
        x.wants(2, 0, 2);
        Check.due("three", x.fill(7), 0);
        Check.row("each its own", x, 0, 1, 2, 0, 6, 20);
        Check.due("three together", x.burns(7), 3);
        Check.row("three together", x, 7);
        x.wants(3, 1, 0);
        Check.due("one that takes 1 can't", x.coaled(15), -2);
        Check.row("the row stays", x, 7);
        Check.due("one that takes 1 can't be filled", x.fill(8), -2);
        Check.due("all but that one", x.burns(15), 3);
        Check.row("all but that one", x, 7);
        Check.due("that one alone", x.burns(8), 0);
        Check.row("that one alone", x, 0);
        x.coal(1, 6, 5);
        Check.due("it takes of a better one", x.fill(15), 1);
        Check.row("the others have their own yet", x, 0, 1, 2, 1, 0, 5, 20);
        Check.due("once", x.fill(15), -2);
        Check.due("1 is taken of", x.coal(1, 0, 0), 5);
        Check.due("0 stays as it is", x.coal(0, 0, 0), 0);
        Check.due("2 stays as it is", x.coal(2, 0, 0), 20);
    }

    private static void fill() {
        EnginesAsleep x = of(8);
        x.wants(0, 5, 0);
        x.wants(1, 6, 2);
        x.coal(0, 7, 2);
        x.coal(2, 10, 0);
        Check.due("none told", x.fill(0), -1);
        Check.due("eight", x.fill(255), -1);
        Check.due("none such", x.fill(256), -1);
        Check.due("both", x.fill(3), 11);
        Check.row("both", x, 0, 2, 2, 0, 4);
        Check.due("again it can't be", x.fill(3), -2);
        Check.due("0 is taken", x.coal(0, 7, 2), 2);
        Check.due("2 is taken", x.coal(2, 10, 0), 4);
        Check.due("it wants it yet", x.fill(2), 6);
        Check.row("it wants it yet", x, 2, 7, 0, 4);
    }

    private static void burns() {
        EnginesAsleep x = of(9);
        Check.due("none told", x.burns(0), -1);
        Check.due("eight", x.burns(255), -1);
        Check.due("none such", x.burns(1 << 9), -1);
        for (int e = 0; e < 7; e++) {
            x.wants(e, 10 - e, 0);
        }
        x.coal(0, 15, 0);
        Check.due("three small ones", x.burns(127), 3);
        Check.row("three small ones", x, 0b1110000);
        Check.due("of these", x.burns(0b1111), 2);
        Check.row("of these", x, 0b1100);
        Check.due("of 10 and 9", x.burns(0b11), 1);
        Check.row("the least", x, 1);
        x.coal(1, 8, 0);
        Check.due("four", x.burns(127), 4);
        Check.row("four", x, 0b1110100);
        x.wants(0, 0, 0);
        Check.due("one that wants none", x.burns(1), 1);
        x.coal(0, 0, 0);
        x.coal(1, 0, 0);
        Check.due("none but that one", x.burns(127), 1);
        Check.row("none but that one", x, 1);
        Check.due("none at all", x.burns(126), 0);
        Check.row("none at all", x, 0);
        Check.due("nothing changed", x.coal(0, 0, 0), 0);
        // The least bits may need another grade for a higher engine than the first that goes.
        EnginesAsleep y = of(3);
        y.wants(0, 6, 1);
        y.wants(1, 6, 0);
        y.wants(2, 5, 0);
        y.coal(0, 5, 0);
        y.coal(1, 6, 0);
        Check.due("two", y.burns(7), 2);
        Check.row("two", y, 0b101);
    }
}
