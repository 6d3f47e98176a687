import java.util.Arrays;
import java.util.function.Predicate;
import java.util.function.Supplier;
import java.util.function.ToIntFunction;

/** An object in which much stands already, to see that a call leaves all of it as it was. */
final class Busy {
    private Busy() {
    }

    /** Six stalls, five engines: 2 in front of 0 in stall 1, 3 cold and dead in stall 4, 1 and 4 on the road. */
    static EnginesAsleep made() {
        EnginesAsleep x = fleet();
        x.move(0, 1);
        x.move(2, 1);
        x.drag(3, 4, 4);
        return told(x);
    }

    /** The same, with all engines on the road. */
    static EnginesAsleep allOut() {
        return told(fleet());
    }

    private static EnginesAsleep fleet() {
        EnginesAsleep x = new EnginesAsleep();
        x.ring(6);
        x.stall(2, 40, 1);
        x.set(0, 2);
        x.set(1, 3);
        x.engine(10, 1, 0, false);
        x.engine(12, 2, 10, true);
        x.engine(8, 3, 0, false);
        x.engine(15, 0, 20, false);
        x.engine(9, 5, 5, false);
        x.light(0);
        x.light(2);
        x.light(4);
        x.pass(7);
        return x;
    }

    private static EnginesAsleep told(EnginesAsleep x) {
        x.keep(0);
        x.pass(3);
        x.light(1);
        x.dead(3, true);
        x.keep(1);
        x.shut(5, true);
        x.train(300, 1, 60);
        x.train(200, 0, 100);
        x.train(250, 2, 30);
        x.plan(0, 0);
        x.plan(1, 4);
        x.comes(4);
        x.comes(1);
        x.leaves(1);
        x.coal(0, 50, 5);
        x.coal(1, 30, 40);
        x.coal(2, 12, 1);
        x.wants(0, 20, 0);
        x.wants(1, 10, 1);
        x.wants(2, 40, 1);
        Check.rule(x, "n<5|c>2");
        Check.text(x, "n<4");
        x.inside(1);
        return x;
    }

    /** NONE, and all is as it was. */
    static void refused(String what, ToIntFunction<EnginesAsleep> call) {
        leaves(what, -1, Busy::made, call);
    }

    static void refused(String what, Supplier<EnginesAsleep> made, ToIntFunction<EnginesAsleep> call) {
        leaves(what, -1, made, call);
    }

    /** False, and all is as it was. */
    static void denied(String what, Predicate<EnginesAsleep> call) {
        leaves(what, 0, Busy::made, x -> call.test(x) ? 1 : 0);
    }

    static void denied(String what, Supplier<EnginesAsleep> made, Predicate<EnginesAsleep> call) {
        leaves(what, 0, made, x -> call.test(x) ? 1 : 0);
    }

    /** Just this answer, and all is as it was, the ROW too. */
    static void leaves(String what, int want, Supplier<EnginesAsleep> made, ToIntFunction<EnginesAsleep> call) {
        EnginesAsleep x = made.get();
        Check.due(what, call.applyAsInt(x), want);
        Check.same(what, all(made.get(), true), all(x, true));
    }

    /** Whatever it answers: all is as it was, but for the ROW. */
    static void onlyAsks(String what, ToIntFunction<EnginesAsleep> call) {
        EnginesAsleep x = made();
        call.applyAsInt(x);
        Check.same(what, all(made(), false), all(x, false));
    }

    /** All that an object answers (with its ROW or without); the object is of no use behind it. Some 400 calls. */
    static String all(EnginesAsleep x, boolean withRow) {
        StringBuilder t = new StringBuilder();
        if (withRow) {
            tell(t, "row", 0, x);
        }
        int engines = x.count(1);
        stands(t, x);
        taken(t, x, 5);
        for (int e = 0; e < engines && e < 5; e++) {
            tell(t, " free", x.free(e), x);
            tell(t, " coaled", x.coaled(1 << e), x);
        }
        int stalls = x.count(0);
        for (int s = 0; s < stalls; s++) {
            tell(t, " clear", x.clear(s), x);
        }
        tell(t, " order", x.order(x.count(7)), x);
        tell(t, " under", x.under(), x);
        tell(t, " room", x.room((1 << engines) - 1 & ~x.count(7)), x);
        tell(t, " burns", x.burns((1 << Math.min(7, engines)) - 1), x);
        tell(t, " frost", x.frost(1), x);
        theTrains(t, x);
        for (int e = 0; e < engines; e++) {
            t.append(" leaves").append(x.leaves(e));
        }
        tell(t, " put", x.put(), x);
        t.append(" set").append(x.set(0, 1)).append(',').append(x.set(1, 0)).append(" coal");
        for (int g = 0; g < 3; g++) {
            t.append(x.coal(g, 0, 0)).append(',');
        }
        t.append(" rule").append(x.rule());
        taken(t, x, 3);
        for (int i = 0; i < 3; i++) {
            t.append(" again").append(x.again(i));
            for (int what : new int[] {2, 3, 7, 9}) {
                t.append(',').append(x.count(what));
            }
            for (int e = 0; e < engines && e < 5; e++) {
                t.append(' ').append(x.of(e, 0)).append(',').append(x.of(e, 3));
            }
        }
        return t.toString();
    }

    private static void tell(StringBuilder t, String what, int answer, EnginesAsleep x) {
        t.append(what).append(answer).append(Arrays.toString(Check.rowOf(x)));
    }

    private static void stands(StringBuilder t, EnginesAsleep x) {
        for (int what = 0; what <= 11; what++) {
            if (what != 10) {
                t.append(what == 0 ? " count" : ",").append(x.count(what));
            }
        }
        int engines = x.count(1);
        for (int e = 0; e < engines && e < 5; e++) {
            for (int what = 0; what <= 6; what++) {
                t.append(what == 0 ? " of" : ",").append(x.of(e, what));
            }
        }
    }

    private static void taken(StringBuilder t, EnginesAsleep x, int most) {
        t.append(" takes");
        int engines = x.count(1);
        int stalls = x.count(0);
        for (int e = 0; e < engines && e < most; e++) {
            for (int s = 0; s < stalls; s++) {
                t.append(x.takes(s, e));
            }
        }
        t.append(" smoke").append(x.smoke());
    }

    private static void theTrains(StringBuilder t, EnginesAsleep x) {
        int engines = x.count(1);
        int trains = x.count(4);
        for (int train = 0; train < trains && train < 4; train++) {
            for (int e = 0; e < engines && e < 5; e++) {
                t.append(e == 0 ? " fits" : "").append(x.fits(e, train));
            }
            tell(t, " soonest", x.soonest(train), x);
            tell(t, " why", x.why(train), x);
        }
        tell(t, " most", x.most(), x);
        tell(t, " fails", x.fails(0), x);
        tell(t, " exchange", x.exchange(), x);
        tell(t, " crews", x.crews(0, 2000), x);
        tell(t, " crews", x.crews(30, 180), x);
        tell(t, " fires", x.fires(20, 2), x);
        t.append(" men").append(x.men(20)).append(" wrong").append(x.wrong());
        tell(t, " morning", x.morning(), x);
    }
}
