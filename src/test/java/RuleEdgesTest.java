/** The edges of the rules of sorts, sentence by sentence: their grammar, how many knots, values and errors. */
public final class RuleEdgesTest {
    private static final Checks checks = new Checks();
    private static final String BILLION = "1000*1000*1000";
    private static final String TRILLION = "1000*1000*1000*1000";

    public static void main(String[] args) {
        orOfAnd();
        andOfNot();
        notOfComparison();
        oneComparison();
        sumsAndProducts();
        parts();
        names();
        signsOfTwo();
        eightBrackets();
        sixtyFourKnots();
        knotsOfAllRules();
        whatAKnotIs();
        comparisonsAndLogic();
        whatIsntNought();
        bothSides();
        cutTowardsNought();
        byNought();
        greatValues();
        lowValues();
        longs();
        checks.finish("RuleEdgesTest");
    }

    /** What a rule is for a guest with all details: 1 not 0, 0, or -1 an ERROR. */
    private static int truth(String rule) {
        GuestStars stars = checks.told("reign r 0 1;gate g 0 0;guest r 1 7 0 near g 3 east lasts 50 bright 4 moves 20 tail;"
            + "sort a 1 " + rule + ";sort b 1 not (" + rule + ");");
        int sort = stars.sort(0);
        return sort == 0 ? 1 : sort == 1 ? 0 : -1;
    }

    private static void holds(String rule) {
        checks.due(rule, truth(rule), 1);
    }

    private static void fails(String rule) {
        checks.due(rule, truth(rule), 0);
    }

    private static void error(String rule) {
        checks.due(rule, truth(rule), -1);
    }

    private static void orOfAnd() {
        checks.sentence("E: A { or A }");
        holds("1 or 0 and 0");
        holds("0 and 0 or 1");
        fails("0 or 0 or 0");
        holds("0 or 0 or 1");
        checks.fault(1, "sort a 1 1 or|;");
        checks.fault(1, "sort a 1 |or 1;");
        checks.fault(1, "sort a 1 1 or |or 1;");
        checks.fault(1, "sort a 1 1 or |and 1;");
    }

    private static void andOfNot() {
        checks.sentence("A: B { and B }");
        fails("not 1 and 0");
        holds("1 and 1 and 1");
        fails("1 and 1 and 0");
        checks.fault(1, "sort a 1 1 and|;");
        checks.fault(1, "sort a 1 |and 1;");
        checks.fault(1, "sort a 1 1 and |or 1;");
        checks.fine("sort a 1 1 and not 1;");
        checks.fine("sort a 1 1 or not 1;");
    }

    private static void notOfComparison() {
        checks.sentence("B: not B | C");
        holds("not 1=2");
        holds("not 2<1+0");
        fails("not not 0");
        holds("not not not 0");
        holds("not 0");
        checks.fault(1, "sort a 1 not|;");
        checks.fault(1, "sort a 1 1 |not 1;");
        checks.fault(1, "sort a 1 1 + |not 1;");
        checks.fault(1, "sort a 1 1 * |not 1;");
        checks.fault(1, "sort a 1 1 < |not 1;");
        checks.fault(1, "sort a 1 (1 + 1) = |not 1;");
        checks.fine("sort a 1 1 < (not 1);");
        checks.fine("sort a 1 1 + (not 1);");
        checks.fine("sort a 1 (not (not 1));");
    }

    private static void oneComparison() {
        checks.sentence("C: S [ ( < | <= | = | <> | >= | > ) S ]");
        String[] signs = {"<", "<=", "=", "<>", ">=", ">"};
        for (String first : signs) {
            checks.fine("sort a 1 1" + first + "2;");
            checks.fine("sort a 1 (1" + first + "2)" + first + "3;");
            checks.fine("sort a 1 1" + first + "(2" + first + "3);");
            checks.fine("sort a 1 1" + first + "2 and 3" + first + "4 or not 5" + first + "6;");
            checks.fault(1, "sort a 1 |" + first + "2;");
            checks.fault(1, "sort a 1 1" + first + "|;");
            for (String second : signs) {
                checks.fault(1, "sort a 1 1" + first + "2|" + second + "3;");
                checks.fault(1, "sort a 1 1" + first + "2+3*4|" + second + "5;");
                checks.fault(1, "sort a 1 not (1" + first + "2|" + second + "3);");
                checks.fault(1, "sort a 1 not 1" + first + "(2)|" + second + "3;");
                checks.fault(1, "sort a 1 1" + first + " |" + second + "3;");
            }
        }
        holds("(1<2)=1");
        holds("3-2=1");
        holds("1=3-2");
    }

    private static void sumsAndProducts() {
        checks.sentence("S: T { ( + | - ) T }. T: P { ( * | / ) P }");
        holds("2+3*4=14");
        holds("2*3+4=10");
        holds("20-5-3=12");
        holds("20-(5-3)=18");
        holds("100/5/2=10");
        holds("100/(5/2)=50");
        holds("7/2*2=6");
        holds("2*7/2=7");
        holds("1-1+1=1");
        holds("0*5=0");
        holds("5*0=0");
        holds("0*0=0");
        holds("(0-3)*0=0");
        for (String sign : new String[] {"+", "-", "*", "/"}) {
            checks.fault(1, "sort a 1 |" + sign + "1;");
            checks.fault(1, "sort a 1 1" + sign + "|;");
            checks.fault(1, "sort a 1 1" + sign + "|" + sign + "1;");
            checks.fault(1, "sort a 1 (|" + sign + "1);");
            checks.fault(1, "sort a 1 1 <= |" + sign + "1;");
        }
    }

    private static void parts() {
        checks.sentence("P: N | NAME | '(' E ')'");
        checks.fine("sort a 1 (1 or 0);");
        holds("(1 or 0)+(1 and 1)=2");
        checks.fault(1, "sort a 1 |;");
        checks.fault(1, "sort a 1 (|);");
        checks.fault(1, "sort a 1 (1|;");
        checks.fault(1, "sort a 1 (1|");
        checks.fault(1, "sort a 1 (1 or|");
        checks.fault(1, "sort a 1 1|);");
        checks.fault(1, "sort a 1 (1)|);");
        checks.fault(1, "sort a 1 |);");
        checks.fault(1, "sort a 1 1 |(1);");
        checks.fault(1, "sort a 1 (1)|(1);");
        checks.fault(1, "sort a 1 (1)|1;");
        checks.fault(1, "sort a 1 1 |1;");
        checks.fault(1, "sort a 1 tail |tail;");
        checks.fault(1, "sort a 1 (1 |;);");
    }

    private static void names() {
        checks.sentence("NAME: lasts bright moves tail inches month");
        holds("lasts=50");
        holds("bright=4");
        holds("moves=20");
        holds("tail=1");
        holds("inches=3");
        holds("month=7");
        GuestStars rock = checks.told("rock 5 9;sort a 1 lasts or bright or moves or tail or inches or month;sort b 1 1;");
        checks.due("all 0 of a rock that tells none", rock.sort(0), 1);
        for (String word : new String[] {"reign", "gate", "book", "from", "guest", "rock", "in", "near", "worth", "cloud", "plate",
            "slow", "tick", "sort", "watch", "turn", "price", "limit", "blur", "north", "south", "east", "west", "year", "round", "a"}) {
            checks.fault(1, "sort a 1 |" + word + ";");
            checks.fault(1, "sort a 1 1 + |" + word + ";");
        }
    }

    private static void signsOfTwo() {
        checks.sentence("A = (or > behind <) right behind < or > belongs to it");
        for (String sign : new String[] {"<=", "<>", ">="}) {
            GuestStars stars = checks.told("sort a 1 1" + sign + "2;");
            checks.due("knots of " + sign, stars.count(6), 3);
            checks.fault(1, "sort a 1 1" + sign.charAt(0) + " |" + sign.charAt(1) + "2;");
            checks.fault(1, "sort a 1 1" + sign.charAt(0) + "\n|" + sign.charAt(1) + "2;");
        }
        checks.fault(1, "sort a 1 1>|<2;");
        checks.fault(1, "sort a 1 1=|<2;");
        checks.fault(1, "sort a 1 1=|>2;");
        checks.fault(1, "sort a 1 1=|=2;");
        checks.fault(1, "sort a 1 1>|>2;");
        checks.fault(1, "sort a 1 1<|<2;");
        checks.fault(1, "sort a 1 1<=|>2;");
        checks.fault(1, "sort a 1 1<=|=2;");
        checks.fault(1, "sort a 1 1<>|=2;");
        checks.fault(1, "sort a 1 1>=|=2;");
        checks.fault(1, "sort a 1 |<=1;");
        // At the end of the bytes nothing is right behind.
        GuestStars stars = new GuestStars();
        Checks.feed(stars, "sort a 1 1<=2;      ");
        checks.due("text(11)", stars.text(11), -1);
        checks.due("place", stars.fault(1), 11);
    }

    private static void eightBrackets() {
        checks.sentence("2 a ninth '(' open");
        checks.fine("sort a 1 ((((((((1))))))));");
        checks.fine("sort a 1 ((((((((1))))))))+((((((((2))))))));");
        checks.fine("sort a 1 ((((((((1)+(2))))))));");
        checks.fine("sort a 1 ((((((((1))))))));sort b 1 ((((((((1))))))));");
        checks.fine("sort a 1 (1)+(1)+(1)+(1)+(1)+(1)+(1)+(1)+(1)+(1);");
        checks.fault(2, "sort a 1 ((((((((|(1)))))))));");
        checks.fault(2, "sort a 1 ((((((((|(");
        checks.fault(2, "sort a 1 ((((((((1+2*|(3)))))))));");
        checks.fault(2, "sort a 1 ((((((((1)+(1+|(1)))))))));");
        checks.fault(2, "sort a 1 1;sort b 1 ((((((((not |(1)))))))));");
        holds("(((((((0+1)))))))");
    }

    /** As many knots as asked for, an odd number, ending with an operand. */
    private static String knots(int many) {
        return "1" + "+1".repeat((many - 1) / 2);
    }

    private static void sixtyFourKnots() {
        checks.sentence("2 a 65th KNOT (at it)");
        checks.fine("sort a 1 " + knots(63) + ";");
        checks.fine("sort a 1 not " + knots(63) + ";");
        GuestStars stars = checks.told("sort a 1 not " + knots(63) + ";");
        checks.due("knots", stars.count(6), 64);
        for (String sign : new String[] {"+", "-", "*", "/", "<", "<=", "=", "<>", ">=", ">", "and ", "or "}) {
            checks.fault(2, "sort a 1 not " + knots(63) + " |" + sign + "1;");
            checks.fault(2, "sort a 1 not " + knots(63) + " |" + sign);
        }
        for (String sign : new String[] {"+", "-", "*", "/", "<", "<=", "=", "<>", ">=", ">", "and ", "or "}) {
            for (String operand : new String[] {"1", "0", "lasts", "bright", "moves", "tail", "inches", "month"}) {
                checks.fault(2, "sort a 1 " + knots(63) + " " + sign + "|" + operand + ";");
            }
        }
        checks.fault(2, "sort a 1 " + knots(63) + " and |not 1;");
        checks.fault(2, "sort a 1 " + knots(63) + " or |not");
        checks.due("63 times not", checks.told("rock 0 0;sort a 1 " + "not ".repeat(63) + "1;").sort(0), -1);
        checks.due("63 times not", checks.told("rock 0 0;sort a 1 " + "not ".repeat(63) + "0;").sort(0), 0);
        checks.due("62 times not", checks.told("rock 0 0;sort a 1 ((((((((" + "not ".repeat(62) + "0))))))));").sort(0), -1);
        checks.due("62 times not", checks.told("rock 0 0;sort a 1 ((((((((" + "not ".repeat(62) + "1))))))));").sort(0), 0);
        checks.fault(2, "sort a 1 " + "not ".repeat(64) + "|1;");
        checks.fault(2, "sort a 1 " + "not ".repeat(64) + "|not 1;");
    }

    private static void knotsOfAllRules() {
        checks.sentence("2 a 65th KNOT of all E");
        String all = "sort a 1 " + knots(21) + ";sort b 1 " + knots(21) + ";sort c 1 " + knots(21);
        GuestStars stars = checks.told(all + ";sort d 1 1;");
        checks.due("knots", stars.count(6), 64);
        checks.fault(2, all + ";sort d 1 1|+1;");
        checks.fault(2, all + ";sort d 1 1;sort e 1 |1;");
        checks.fault(2, all + ";sort d 1 not |tail;");
        // The rules of an earlier text, or of one with a fault, don't count.
        checks.due("again", Checks.tell(stars, all + ";sort d 1 1;"), 4);
        checks.due("with a fault", Checks.tell(stars, all + ";sort d 1 1;x"), -1);
        checks.due("once more", Checks.tell(stars, all + ";sort d 1 1;"), 4);
        checks.due("knots", stars.count(6), 64);
    }

    private static void whatAKnotIs() {
        checks.sentence("KNOTS: N, NAMES, signs, not, and, or: one each");
        String[] rules = {"1", "month", "1+1", "1-1", "1*1", "1/1", "1<1", "1<=1", "1=1", "1<>1", "1>=1", "1>1", "not 1", "1 and 1",
            "1 or 1", "(1)", "((1)+(1))", "not (not 1)", "9999", "lasts+bright+moves+tail+inches+month"};
        int[] knots = {1, 1, 3, 3, 3, 3, 3, 3, 3, 3, 3, 3, 2, 3, 3, 1, 3, 3, 1, 11};
        for (int k = 0; k < rules.length; k++) {
            checks.due("knots of " + rules[k], checks.told("sort a 1 " + rules[k] + ";").count(6), knots[k]);
        }
        checks.due("without sorts", checks.told("rock 0 0;").count(6), 0);
        checks.fine("sort a 1 ((((((((not " + knots(63) + "))))))));");
    }

    private static void comparisonsAndLogic() {
        checks.sentence("comparisons, and, or, not are 1 or 0");
        String[] signs = {"<", "<=", "=", "<>", ">=", ">"};
        String[] due = {"100", "110", "010", "101", "011", "001"};
        for (int k = 0; k < signs.length; k++) {
            for (int side = 0; side < 3; side++) {
                holds("(" + (4 + side) + signs[k] + "5)=" + due[k].charAt(side));
            }
        }
        holds("(5 and 7)=1");
        holds("(5 and 0)=0");
        holds("(0 and 7)=0");
        holds("(5 or 7)=1");
        holds("(0 or 7)=1");
        holds("(5 or 0)=1");
        holds("(0 or 0)=0");
        holds("(not 5)=0");
        holds("(not 0)=1");
        holds("(not not 5)=1");
    }

    private static void whatIsntNought() {
        checks.sentence("what isn't 0 is as 1");
        holds("0-1");
        holds("(0-1) and 2");
        holds("(0-1) or 0");
        fails("not (0-5)");
        holds("(0-5<0) and (0-5<>0)");
    }

    private static void bothSides() {
        checks.sentence("both sides are worked out");
        error("0 and 1/0");
        error("1/0 and 0");
        error("1 or 1/0");
        error("1/0 or 1");
        error("0 and (" + TRILLION + "+1)");
        error("0*(1/0)");
    }

    private static void cutTowardsNought() {
        checks.sentence("/ is cut towards 0");
        holds("7/2=3");
        holds("(0-7)/2=0-3");
        holds("7/(0-2)=0-3");
        holds("(0-7)/(0-2)=3");
        holds("1/2=0");
        holds("(0-1)/2=0");
        holds("0/5=0");
        holds("(0-6)/2=0-3");
    }

    private static void byNought() {
        checks.sentence("ERROR: / by 0");
        error("1/0");
        error("0/0");
        error("1/(1-1)");
        error("not 1/0");
        error("not (1/0)");
        error("1/0=1/0");
        error("1/0<>1");
        error("1+1/0");
        error("lasts/(month-7)");
        error("1/(1/2)");
        error(TRILLION + "/0");
    }

    private static void greatValues() {
        checks.sentence("ERROR: a value above 10 to the 12");
        holds(TRILLION + "-1");
        holds(TRILLION + ">0");
        holds("999*" + BILLION + "+" + BILLION + "=" + TRILLION);
        error(TRILLION + "+1");
        error("1+" + TRILLION);
        error("(" + TRILLION + "+1)-1");
        error("999*" + BILLION + "+" + BILLION + "+1");
        error(TRILLION + "-(0-1)");
        error(TRILLION + "*2");
        error("2*(" + TRILLION + ")");
        error("(" + TRILLION + ")/(0-1)*(0-2)");
        holds("(" + TRILLION + ")*1");
        holds("(" + TRILLION + ")/1=" + TRILLION);
        holds("(0-1000)*(0-" + BILLION + ")=" + TRILLION);
        error("(0-1001)*(0-" + BILLION + ")");
    }

    private static void lowValues() {
        checks.sentence("ERROR: a value below 0 by more than that");
        holds("0-" + TRILLION);
        holds("0-" + TRILLION + "<0");
        holds("0-" + TRILLION + "+1");
        error("0-" + TRILLION + "-1");
        error("0-1-" + TRILLION);
        error("(0-" + TRILLION + "-1)+1");
        error("0-1+(0-" + TRILLION + ")");
        holds("(0-1000)*" + BILLION + "=0-" + TRILLION);
        holds("(" + TRILLION + ")*(0-1)<0");
        error("(0-1001)*" + BILLION);
        error(BILLION + "*(0-1001)");
        error("(0-" + TRILLION + ")*2");
    }

    private static void longs() {
        checks.sentence("VALUES are longs");
        // None of these fits an int; the last three would wrap a long into what is allowed.
        holds("9999*9999*9999=9999*(9999*9999)");
        holds("9999*9999*9999/9999/9999=9999");
        holds("900*" + BILLION + "/3=300*" + BILLION);
        error("(" + TRILLION + ")*(" + TRILLION + ")");
        error("9999*9999*9999*9999*9999*9999");
        error("4096*4096*4096*(4096*4096*256)");
        error("(4096*4096*4096)*(4096*4096*4096)+1");
        error("(4096*4096*4096)*(0-4096*4096*4096)");
    }
}
