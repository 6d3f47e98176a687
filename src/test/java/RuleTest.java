/** Promise 10: rule, and the EXPRESSIONS of the Terms. */
public final class RuleTest {
    public static void main(String[] args) {
        values();
        letters();
        faults();
        longTexts();
        whatStays();
        Check.end();
    }

    /** Whether stall 4 takes an engine 10 long of class 3, that is no visitor, under this rule. */
    private static int underRule(String text) {
        EnginesAsleep x = new EnginesAsleep();
        x.engine(10, 3, 0, false);
        Check.due("rule " + text, Check.rule(x, text), 0);
        Check.due("signs behind rule()", x.count(11), 0);
        return x.takes(4, 0);
    }

    private static void lets(String text) {
        Check.due(text, underRule(text), 1);
    }

    private static void bars(String text) {
        Check.due(text, underRule(text), 0);
    }

    private static void values() {
        lets("1");
        bars("0");
        bars("000");
        lets("999>998");
        lets("2");
        lets("-1");
        bars("!2");
        lets("!!2=1");
        lets("!-!1=1");
        lets("--5=5");
        lets("1|0&0");
        lets("0|1");
        bars("1&0");
        lets("(2&4)=1");
        lets("2|0=1");
        lets("(0|4)=1");
        lets("1+2=3");
        lets("3-2-1=0");
        lets("3-(2-1)=2");
        lets("5--2=7");
        lets("5+-2=3");
        lets("2<3&3>2");
        bars("2<2");
        bars("2>2");
        lets("2=2");
        lets("(1<2)=(3<4)");
        lets("-3<-2");
        lets("!0+!0=2");
        bars("!l");
        lets("1=2|3=3");
        lets("1|0&0=1&0");
        bars("(1|0)&0=1&0");
        lets("(((((1)))))");
        lets("l=10&c=3&v=0&d=0&s=0&n=4&b=1&h=1");
        bars("-0");
        lets("!-0");
    }

    private static void letters() {
        EnginesAsleep x = new EnginesAsleep();
        x.engine(12, 2, 5, true);
        x.engine(6, 0, 0, false);
        x.light(1);
        Check.rule(x, "v");
        Check.due("a visitor", x.takes(0, 0), 1);
        Check.due("none", x.takes(0, 1), 0);
        Check.rule(x, "d");
        Check.due("not dead", x.takes(0, 0), 0);
        x.dead(0, true);
        Check.due("dead", x.takes(0, 0), 1);
        x.dead(0, false);
        Check.rule(x, "s");
        Check.due("not lit", x.takes(0, 0), 0);
        x.light(0);
        x.pass(4);
        Check.due("lit, not in steam", x.takes(0, 0), 0);
        x.pass(1);
        Check.due("just in steam", x.takes(0, 0), 1);
        Check.rule(x, "n=7");
        Check.due("stall 7", x.takes(7, 0), 1);
        Check.due("stall 6", x.takes(6, 0), 0);
        Check.rule(x, "b");
        Check.due("at the back", x.takes(7, 0), 1);
        x.move(1, 7);
        Check.due("at the front", x.takes(7, 0), 0);
        Check.rule(x, "h");
        x.stall(7, 30, 1);
        Check.due("hood over the front", x.takes(7, 0), 1);
        x.stall(7, 30, 2);
        Check.due("hood over the back only", x.takes(7, 0), 0);
        x.stall(6, 30, 2);
        Check.due("hood over the back, comes there", x.takes(6, 0), 1);
        x.stall(6, 30, 1);
        Check.due("hood over the front, comes to the back", x.takes(6, 0), 0);
        Check.rule(x, "c=2&l=12");
        Check.due("class and length", x.takes(5, 0), 1);
        Check.due("others", x.takes(5, 1), 0);
    }

    private static void fault(String text, int at) {
        Check.due(text, Check.rule(new EnginesAsleep(), text), -1 - at);
    }

    private static void faults() {
        fault("x", 0);
        fault(" l", 0);
        fault("l ", 1);
        fault("ll", 1);
        fault("l5", 1);
        fault("5l", 1);
        fault("1234", 3);
        fault("12345", 3);
        fault("1<2<3", 3);
        fault("1=2>3", 3);
        fault("1<2&3<4=5", 7);
        fault("(1<2)<3<4", 7);
        fault("l+", 2);
        fault("l!", 1);
        fault("!", 1);
        fault("-", 1);
        fault("(", 1);
        fault("()", 1);
        fault(")", 0);
        fault("(1))", 3);
        fault("(1", 2);
        fault("(((((1)))))", -1);
        fault("((((((1))))))", 5);
        fault("(1)(1)", 3);
        fault("l&&c", 2);
        fault("l&|c", 2);
        fault("+1", 0);
        fault("1+*2", 2);
        fault("L", 0);
        fault("" + (char) 0, 0);
        fault("1" + (char) 233, 1);
        fault("(((((l)))))&(((((c)))))", -1);
        fault("<", 0);
        fault("l<=3", 2);
    }

    private static String times(String part, int n) {
        return part.repeat(n);
    }

    private static void longTexts() {
        fault(times("!", 39) + "1", -1);
        fault(times("!", 40), 40);
        fault(times("!", 40) + "1", 40);
        fault(times("1+", 19) + "11", -1);
        fault(times("1+", 19) + "111", 40);
        fault(times("1+", 20), 40);
        fault(times("1+", 20) + "1", 40);
        fault(times("1+", 10) + "x" + times("1+", 15), 20);
        fault(times("1+", 19) + "1x1", 39);
        fault(times("1+", 19) + "11x", 40);
        fault(times("1", 60), 3);
        fault(times("-", 60), 40);
        fault(times("l+", 19) + "1x", 39);
    }

    private static void whatStays() {
        EnginesAsleep x = new EnginesAsleep();
        x.engine(10, 3, 0, false);
        Check.due("a rule", Check.rule(x, "l>20"), 0);
        Check.due("it bars", x.takes(0, 0), 0);
        Check.due("a wrong one", Check.rule(x, "l>20+"), -6);
        Check.due("the text is empty", x.count(11), 0);
        Check.due("the old one stays", x.takes(0, 0), 0);
        Check.due("another wrong one", Check.rule(x, "1)"), -2);
        Check.due("the old one stays yet", x.takes(0, 0), 0);
        Check.due("an empty one", x.rule(), 0);
        Check.due("all may be", x.takes(0, 0), 1);
        Check.rule(x, "n=0");
        x.ring(5);
        Check.due("a new ring has the old rule", x.takes(1, 0), 0);
        x.light(0);
        Check.due("the rule bars a move", x.move(0, 1), -1);
        Check.due("the rule lets a move", x.move(0, 0), 5);
        Check.rule(x, "0");
        Check.due("who is in may go out", x.move(0, 5), 5);
    }
}
