/** Promise 10 and THE RULE of the Terms, sentence by sentence: how tight signs bind, and where one can't stand. */
public final class RuleEdgesTest {
    public static void main(String[] args) {
        orBindsLeast();
        andBindsNext();
        comparesBindNext();
        sumsFromTheLeft();
        notAndMinusAhead();
        truthIsOneOrZero();
        comparesAreOneOrZero();
        numbersOfThreeDigits();
        fiveInOneAnother();
        lettersOfTheEngine();
        lettersOfFire();
        lettersOfThePlace();
        noOtherLetters();
        noBlanks();
        notOneBehindTheOther();
        whatCannotBegin();
        whatCannotFollow();
        itsEnd();
        fortySigns();
        moreThanForty();
        noRule();
        wrongRuleChangesNothing();
        theTextIsEmptied();
        takesAsTheRuleSays();
        Check.end();
    }

    /** Engine 0: 10 long, class 3, no visitor, cold. */
    private static EnginesAsleep one() {
        EnginesAsleep x = new EnginesAsleep();
        x.engine(10, 3, 0, false);
        return x;
    }

    private static int underRule(String text) {
        EnginesAsleep x = one();
        Check.due("rule " + text, Check.rule(x, text), 0);
        return x.takes(4, 0);
    }

    private static void lets(String... texts) {
        for (String text : texts) {
            Check.due(text, underRule(text), 1);
        }
    }

    private static void bars(String... texts) {
        for (String text : texts) {
            Check.due(text, underRule(text), 0);
        }
    }

    private static void fault(String text, int at) {
        Check.due(text, Check.rule(new EnginesAsleep(), text), -1 - at);
    }

    private static void good(String text) {
        Check.due(text, Check.rule(new EnginesAsleep(), text), 0);
    }

    /** "| binds least": both sides of it go ahead of it. */
    private static void orBindsLeast() {
        lets("1|0&0", "0&0|1", "1|1=0", "1|0+0", "2=3|1");
        bars("(1|0)&0", "0&(0|1)", "(1|1)=0", "0|0", "0|0|0");
        lets("0|0|1", "1|0|0", "0|1|0");
    }

    /** "then &" */
    private static void andBindsNext() {
        lets("2&1=1", "1&1&1", "0|1&1");
        bars("0&0=0", "1&1&0", "0&1&1", "1&0&1", "2&0", "0&2");
        lets("(0&0)=0");
    }

    /** "then < > =" */
    private static void comparesBindNext() {
        lets("1+1=2", "2=1+1", "1<1+1", "3-1>1");
        bars("1+1=3", "3=1+1", "5<1+1", "2>1+1", "1+1<2");
        lets("1+(1=3)", "(3=1)+1");
    }

    /** "then + - (from the left)" */
    private static void sumsFromTheLeft() {
        lets("9-3-2=4", "9-3+2=8", "9+3-2=10", "1-2-3-4+8=0", "9-(3-2)=8", "9-(3+2)=4");
        bars("9-3-2=8", "1+2=4", "1+2=1", "3-2=2", "3-2=3", "1-1", "2-1-1");
    }

    /** "then ! and - ahead of a thing (any many)" */
    private static void notAndMinusAhead() {
        lets("!0+1=2", "!2=0", "-1-1+2=0", "-2+3=1", "!0", "!!1", "--1", "-!0", "!-0", "!0|1", "-1&1", "!(1&0)", "-(1-2)=1", "3--2=5", "3+-2=1");
        bars("!0=2", "!1&0", "!1", "!!0", "!!!7", "-0", "!-1", "-!1", "!(0=2)=0", "-(1-2)=-1");
        lets("!".repeat(38) + "1", "-".repeat(39) + "1", "!-!-!0", "--".repeat(17) + "1=1", "-" + "--".repeat(15) + "1+1=0");
        bars("!".repeat(39) + "1", "-" + "--".repeat(15) + "1=1");
    }

    /** "| & ! give 1 or 0" */
    private static void truthIsOneOrZero() {
        lets("(3|0)=1", "(0|4)=1", "(3|4)=1", "(0|0)=0", "(3&4)=1", "(0&4)=0", "(4&0)=0", "(0&0)=0");
        lets("!7=0", "!0=1", "!!7=1", "(-1&2)=1", "(-1|0)=1", "(0|-1)=1", "(2&-1)=1", "!-1=0", "(0&1)=0", "(1-1&1)=0");
        bars("0&1", "1&0", "0&-1", "-1&0");
    }

    /** "< > = (two; 1 or 0 ..)", as ints */
    private static void comparesAreOneOrZero() {
        lets("(1<2)=1", "(2<1)=0", "(2<2)=0", "(2>1)=1", "(1>2)=0", "(2>2)=0", "(2=2)=1", "(1=2)=0", "(2=1)=0");
        lets("-1<0", "-3<-2", "0>-1", "-2>-3", "-1=-1", "1<999", "(1<2)+(3<4)+(5=5)+(7>6)=4");
        bars("0<-1", "-1=1", "-2<-3", "1<1", "1>1", "0=1");
    }

    /** "a NUMBER of 1 to 3 digits" */
    private static void numbersOfThreeDigits() {
        lets("7=07", "7=007", "999+1=500+500", "100=99+1", "010=10", "9", "99", "999", "001");
        bars("0", "00", "000", "999=998", "100=10");
        fault("1000", 3);
        fault("0000", 3);
        fault("0001", 3);
        fault("1+1000", 5);
        fault("(9999)", 4);
        good("123+456-789=012");
    }

    /** "an EXPRESSION in ( ) (at most 5 in one another)" */
    private static void fiveInOneAnother() {
        for (int deep = 1; deep <= 5; deep++) {
            lets("(".repeat(deep) + "1" + ")".repeat(deep));
        }
        fault("((((((1))))))", 5);
        fault("(((((((((", 5);
        fault("((((((", 5);
        lets("(((((1)))))+(((((0)))))", "((((1)))+((((1)))))=2", "(1)+((1)+((1)+((1)+((1)))))=5");
        fault("(((((1)))))+((((((0))))))", 17);
        fault("(1)+((1)+((1)+((1)+((1)+(1)))))x", 31);
        fault("((((1+((1", 7);
        lets("((((1+(1)))))", "!(!(!(!(!(0)))))", "(0|(0|(0|(0|(1)))))");
    }

    /** "l LONG of the ENGINE, c CLASS, v VISITOR (1, 0), d DEAD" */
    private static void lettersOfTheEngine() {
        EnginesAsleep x = new EnginesAsleep();
        x.engine(5, 0, 0, false);
        x.engine(30, 5, 600, true);
        holds(x, "l=5", 0, 0, 1);
        holds(x, "l=30", 0, 1, 1);
        holds(x, "l=30", 0, 0, 0);
        holds(x, "c=0", 0, 0, 1);
        holds(x, "c=5", 0, 1, 1);
        holds(x, "v=0", 0, 0, 1);
        holds(x, "v=1", 0, 1, 1);
        holds(x, "v", 0, 0, 0);
        x.dead(1, true);
        holds(x, "d=0", 0, 0, 1);
        holds(x, "d=1", 0, 1, 1);
        x.dead(1, false);
        holds(x, "d=0", 0, 1, 1);
        lets("l+c=13", "l-c=7", "-l+10=0", "!l=0");
    }

    private static void holds(EnginesAsleep x, String text, int stall, int engine, int want) {
        Check.due("rule " + text, Check.rule(x, text), 0);
        Check.due(text + " for " + engine + " in " + stall, x.takes(stall, engine), want);
    }

    /** "s 1 if it is IN STEAM NOW": LIT, and RAISE minutes are gone since, just as many do. */
    private static void lettersOfFire() {
        EnginesAsleep x = new EnginesAsleep();
        x.engine(10, 0, 3, false);
        x.engine(10, 0, 0, false);
        holds(x, "s=0", 0, 0, 1);
        holds(x, "s=0", 0, 1, 1);
        x.light(0);
        x.light(1);
        holds(x, "s=0", 0, 0, 1);
        holds(x, "s=1", 0, 1, 1);
        x.pass(2);
        holds(x, "s=0", 0, 0, 1);
        x.pass(1);
        holds(x, "s=1", 0, 0, 1);
        x.dead(0, true);
        holds(x, "s=1", 0, 0, 1);
        x.drop(0);
        holds(x, "s=0", 0, 0, 1);
    }

    /** "n the STALL, b 1 if it would stand at the BACK, h 1 if a HOOD is over that place" */
    private static void lettersOfThePlace() {
        EnginesAsleep x = new EnginesAsleep();
        x.ring(23);
        x.engine(10, 0, 0, false);
        x.engine(10, 0, 0, false);
        x.light(1);
        holds(x, "n=0", 0, 0, 1);
        holds(x, "n=22", 22, 0, 1);
        holds(x, "n=22", 21, 0, 0);
        Check.rule(x, "1");
        x.move(1, 3);
        holds(x, "b=1", 2, 0, 1);
        holds(x, "b=0", 3, 0, 1);
        holds(x, "b=1", 3, 0, 0);
        int[] overBack = {0, 0, 1, 1};
        int[] overFront = {0, 1, 0, 1};
        for (int hoods = 0; hoods < 4; hoods++) {
            x.stall(2, 30, hoods);
            x.stall(3, 30, hoods);
            holds(x, "h=1", 2, 0, overBack[hoods]);
            holds(x, "h=0", 2, 0, 1 - overBack[hoods]);
            holds(x, "h=1", 3, 0, overFront[hoods]);
            holds(x, "h=0", 3, 0, 1 - overFront[hoods]);
        }
    }

    /** The letters are l, c, v, d, s, n, b, h: "the sign at p can't stand there" for every other one. */
    private static void noOtherLetters() {
        for (int sign = 0; sign < 256; sign++) {
            char c = (char) sign;
            boolean thing = "lcvdsnbh0123456789".indexOf(c) >= 0;
            boolean opens = "(!-".indexOf(c) >= 0;
            boolean goesOn = "|&<>=+-".indexOf(c) >= 0;
            fault("" + c, thing ? -1 : opens ? 1 : 0);
            fault("1" + c, c >= '0' && c <= '9' ? -1 : goesOn ? 2 : 1);
            fault("l" + c, goesOn ? 2 : 1);
            fault("(1" + c, c == ')' ? -1 : c >= '0' && c <= '9' || goesOn ? 3 : 2);
            fault("1+" + c, thing ? -1 : opens ? 3 : 2);
            fault("1<1" + c, c >= '0' && c <= '9' ? -1 : goesOn && "<>=".indexOf(c) < 0 ? 4 : 3);
        }
    }

    /** "No blanks." */
    private static void noBlanks() {
        fault(" ", 0);
        fault(" 1", 0);
        fault("1 ", 1);
        fault("1 +1", 1);
        fault("1+ 1", 2);
        fault("( 1)", 1);
        fault("(1 )", 2);
        fault("! 1", 1);
        fault("1\t", 1);
        fault("1\n", 1);
    }

    /** "(two; .. not one behind the other)" */
    private static void notOneBehindTheOther() {
        for (String a : new String[] {"<", ">", "="}) {
            for (String b : new String[] {"<", ">", "="}) {
                fault("1" + a + "2" + b + "3", 3);
                fault("1" + a + "2+3" + b + "4", 5);
                fault("(1" + a + "2" + b + "3)", 4);
                fault("1" + a + b + "2", 2);
                good("(1" + a + "2)" + b + "3");
                good("1" + a + "(2" + b + "3)");
                good("1" + a + "2&3" + b + "4");
                good("1" + a + "2|3" + b + "4");
                fault("1" + a + "2|3" + b + "4=5", 7);
                fault("1" + a + "(2)" + b + "3", 5);
            }
        }
    }

    /** "the sign at p can't stand there": at the beginning, and wherever a thing has to begin */
    private static void whatCannotBegin() {
        for (char c : ")|&<>=+*/,.:;LCVDSNBHx".toCharArray()) {
            fault("" + c, 0);
            fault(c + "1", 0);
            fault("(" + c, 1);
            fault("!" + c, 1);
            fault("-" + c, 1);
            fault("1|" + c, 2);
            fault("1&" + c, 2);
            fault("1<" + c, 2);
            fault("1+" + c, 2);
            fault("1-" + c + "1", 2);
        }
        fault("()", 1);
        fault("(())", 2);
    }

    private static void whatCannotFollow() {
        for (String thing : new String[] {"l", "12", "123", "(1)", "!c", "-7"}) {
            for (String next : new String[] {"(", "!", ")", "l", "v", " ", "x", "(1)", "!1"}) {
                fault(thing + next, thing.length());
                fault("0|" + thing + next + "+1", 2 + thing.length());
            }
        }
        fault("l1", 1);
        fault("(1)1", 3);
        fault("1)", 1);
        fault("(1))", 3);
        fault("((1)))", 5);
    }

    /** "(its end, if it ends too early ..)" */
    private static void itsEnd() {
        for (String early : new String[] {"!", "-", "(", "1+", "1-", "1<", "1>", "1=", "1&", "1|", "(1", "((1)", "(1+", "!!", "l&!", "1|(c", "(((((", "(((((1))))"}) {
            fault(early, early.length());
        }
    }

    /** "a text of at most 40 signs": just as many are good, or end too early. */
    private static void fortySigns() {
        good("1+".repeat(19) + "11");
        good("!".repeat(39) + "l");
        good("(1+" + "1+".repeat(17) + "11)");
        EnginesAsleep x = new EnginesAsleep();
        x.engine(17, 0, 0, false);
        x.engine(16, 0, 0, false);
        // Forty signs that are forty numbers, letters and deeds: -1, 18 times 1.
        holds(x, "-" + "1+".repeat(18) + "1=l", 0, 0, 1);
        holds(x, "-" + "1+".repeat(18) + "1=l", 0, 1, 0);
        holds(x, "-" + "1+".repeat(18) + "1-l", 0, 0, 0);
        holds(x, "-" + "1+".repeat(18) + "1-l", 0, 1, 1);
        fault("1+".repeat(20), 40);
        fault("!".repeat(40), 40);
        fault("(" + "1+".repeat(19) + "1", 40);
        fault("1+".repeat(19) + "1x", 39);
        fault("1+".repeat(19) + "+1", 38);
        fault("x" + "1".repeat(39), 0);
    }

    /** "40, if it has more and the first 40 could go on or end" */
    private static void moreThanForty() {
        for (int n = 41; n <= 60; n++) {
            fault(("1+".repeat(19) + "11" + "1".repeat(20)).substring(0, n), 40);
            fault(("1+".repeat(19) + "11" + "x".repeat(20)).substring(0, n), 40);
            fault("1+".repeat(30).substring(0, n), 40);
            fault("!".repeat(n), 40);
            fault(("(" + "1+".repeat(30)).substring(0, n), 40);
            fault(("1+".repeat(10) + "x" + "1+".repeat(20)).substring(0, n), 20);
            fault(("1+".repeat(19) + "1x" + "1+".repeat(20)).substring(0, n), 39);
            fault("1".repeat(n), 3);
            fault("(".repeat(n), 5);
        }
        fault("1+".repeat(19) + "11" + "+1", 40);
        fault("1+".repeat(19) + "1+" + "1", 40);
        fault("(1+" + "1+".repeat(17) + "111)", 40);
        fault("1+".repeat(19) + "1)" + "1", 39);
    }

    /** "(At first there is none: all may be.)", "an empty one: there is none" */
    private static void noRule() {
        EnginesAsleep x = one();
        Check.due("at first", x.takes(0, 0), 1);
        Check.due("empty at first", x.rule(), 0);
        Check.due("all may be", x.takes(0, 0), 1);
        Check.rule(x, "0");
        Check.due("none may be", x.takes(0, 0), 0);
        x.sign(0x30303030);
        x.end(0);
        Check.due("empty", x.rule(), 0);
        Check.due("all may be again", x.takes(0, 0), 1);
        Check.rule(x, "0");
        Check.due("another one", Check.rule(x, "1"), 0);
        Check.due("it is the rule then", x.takes(0, 0), 1);
    }

    /** Refused calls "change nothing but THE TEXT": a text that is none leaves THE RULE. */
    private static void wrongRuleChangesNothing() {
        String[] wrong = {"1+", "1)", "x", "1|1|1|1|1|x", "((((((", "1+".repeat(30), "1234", " "};
        for (String text : wrong) {
            EnginesAsleep x = one();
            Check.rule(x, "0|l=11");
            Check.due(text, Check.rule(x, text) < 0, true);
            Check.due("the rule bars yet behind " + text, x.takes(0, 0), 0);
            Check.rule(x, "0|l=10");
            Check.due(text + " again", Check.rule(x, text) < 0, true);
            Check.due("the rule lets yet behind " + text, x.takes(0, 0), 1);
            EnginesAsleep y = one();
            Check.rule(y, text);
            Check.due("no rule yet behind " + text, y.takes(0, 0), 1);
        }
        Busy.leaves("a wrong rule", -3, () -> {
            EnginesAsleep x = Busy.made();
            x.end(0);
            x.inside(1);
            return x;
        }, x -> Check.rule(x, "1+"));
    }

    /** "THE TEXT, which a call that reads it empties" */
    private static void theTextIsEmptied() {
        for (String text : new String[] {"", "1", "1+", "x", "1+".repeat(20), "1+".repeat(30)}) {
            EnginesAsleep x = new EnginesAsleep();
            Check.text(x, text);
            Check.due("signs of " + text, x.count(11), text.length());
            x.rule();
            Check.due("no signs behind rule() of " + text, x.count(11), 0);
        }
        EnginesAsleep x = one();
        Check.text(x, "0");
        Check.due("a text alone is no rule", x.takes(0, 0), 1);
    }

    /** "THE RULE is not 0 for that place": any other number lets it. */
    private static void takesAsTheRuleSays() {
        lets("1", "2", "999", "-1", "-999", "5-6");
        bars("0", "-0", "5-5", "l-10", "c-3", "v", "d", "s", "!b", "!h", "n-4");
        EnginesAsleep x = one();
        x.engine(10, 3, 0, false);
        x.light(0);
        x.light(1);
        x.move(0, 4);
        Check.rule(x, "0");
        Check.due("who is in may stay", x.inside(4), 1);
        Check.due("and go to the road", x.move(0, 11), 9);
        Check.due("no move in", x.move(0, 4), -1);
        Check.due("no drag in", x.drag(0, 1, 4), -1);
        Check.rule(x, "n=4&b");
        Check.due("to that place", x.move(0, 4), 9);
        Check.due("not in front of it", x.move(1, 4), -1);
    }
}
