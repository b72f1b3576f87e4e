/** Promises 9, 10 and 26: the rule as a text, its faults, and what it says of a player and a day. */
public final class RuleTest {
    public static void main(String[] args) {
        withoutRule();
        tokens();
        judgement();
        facts();
        longRules();
        faults();
        openOnes();
        faultLeavesRule();
        Check.end("RuleTest");
    }

    private static TownBand one() {
        TownBand x = new TownBand();
        x.player(20, 100);
        return x;
    }

    private static void says(TownBand x, String text, int tokens, int day, int want) {
        Check.due("rule '" + text + "'", Check.rule(x, text), tokens);
        Check.due("may by '" + text + "' on " + day, x.may(0, day), want);
    }

    private static void withoutRule() {
        TownBand x = one();
        Check.due("may(0, 0)", x.may(0, 0), 1);
        Check.due("may(0, 999)", x.may(0, 999), 1);
        Check.due("may(0, 1000)", x.may(0, 1000), -1);
        Check.due("may(0, -1)", x.may(0, -1), -1);
        Check.due("may(1, 0)", x.may(1, 0), -1);
        Check.due("may(-1, 0)", x.may(-1, 0), -1);
        Check.rule(x, "1=2");
        Check.due("may(0, 0) by a rule", x.may(0, 0), 0);
        Check.due("may(0, 1000) by a rule", x.may(0, 1000), -1);
        Check.due("may(1, 0) by a rule", x.may(1, 0), -1);
    }

    private static void tokens() {
        TownBand x = one();
        says(x, "1=1", 3, 0, 1);
        says(x, " 1\n= 1 ", 3, 0, 1);
        says(x, "!(age<18)&(days>9999|past=0)", 16, 0, 1);
        says(x, "0=0000", 3, 0, 1);
        says(x, "9999>9998", 3, 0, 1);
    }

    private static void judgement() {
        TownBand x = one();
        says(x, "1<2", 3, 0, 1);
        says(x, "2<2", 3, 0, 0);
        says(x, "3>2", 3, 0, 1);
        says(x, "2>2", 3, 0, 0);
        says(x, "2=3", 3, 0, 0);
        says(x, "10-3-2=5", 7, 0, 1);
        says(x, "10-3+2=9", 7, 0, 1);
        says(x, "0-5<0-4", 7, 0, 1);
        says(x, "1=1|1=1&1=2", 11, 0, 1);
        says(x, "(1=1|1=1)&1=2", 13, 0, 0);
        says(x, "!1=1|1=1", 8, 0, 1);
        says(x, "!(1=1|1=1)", 10, 0, 0);
        says(x, "!!1=1", 5, 0, 1);
        says(x, "!1=2&1=2", 8, 0, 0);
        says(x, "1=2|1=2|1=1", 11, 0, 1);
        says(x, "1=1&1=1&1=2", 11, 0, 0);
        says(x, "((((((((1=1))))))))&((((((((1=1))))))))", 39, 0, 1);
        says(x, "(((1=2|(1=1&(1=1|(1=2&(1=1|(1=1&1=1+0))))))))", 45, 0, 1);
    }

    private static void facts() {
        TownBand x = one();
        says(x, "age=20", 3, 0, 1);
        says(x, "days=0", 3, 100, 1);
        says(x, "days=0-100", 5, 0, 1);
        says(x, "day=999", 3, 999, 1);
        says(x, "day-days=100", 5, 345, 1);
        says(x, "past=0", 3, 0, 1);
        x.contest(0);
        x.contest(0);
        says(x, "past=2", 3, 0, 1);
        says(x, "out=0", 3, 500, 1);
        x.tell(3, 10, 0);
        x.tell(4, 20, 0);
        x.tell(5, 20, -2);
        Check.due("out ahead of the day", x.may(0, 9), 1);
        Check.due("out with one", x.may(0, 10), 0);
        says(x, "out=1", 3, 19, 1);
        says(x, "out=2", 3, 20, 1);
        x.tell(3, 15, -1);
        says(x, "out=1", 3, 20, 1);
        x.player(33, 0);
        Check.due("another player's out", x.may(1, 20), 0);
        says(x, "age>20", 3, 0, 0);
        Check.due("another player's age", x.may(1, 0), 1);
    }

    private static void longRules() {
        TownBand x = one();
        says(x, "1" + "+1".repeat(397) + "=398", 797, 0, 1);
        says(x, "0" + "-1".repeat(398) + "<0", 799, 0, 1);
        says(x, "1=2" + "|1=2".repeat(198) + "|1=1", 799, 0, 1);
        says(x, "1=1" + "&1=1".repeat(198) + "&1=2", 799, 0, 0);
        says(x, "!0" + "-1".repeat(398) + "<0", 800, 0, 0);
        Check.put(x, "1=12");
        x.end(3);
        Check.due("rule cut to '1=1'", x.rule(), 3);
        Check.due("may by it", x.may(0, 0), 1);
        String deep = "1=2|1=1&(";
        says(x, deep.repeat(8) + "1=2|1=1&1=0+1" + ")".repeat(8), 8 * 9 + 13 + 8, 0, 1);
    }

    private static void faults() {
        TownBand x = one();
        Check.fault(x, "", true, 1, 0);
        Check.fault(x, "  ", true, 1, 2);
        Check.fault(x, "age", true, 1, 3);
        Check.fault(x, "age ", true, 1, 4);
        Check.fault(x, "age>", true, 1, 4);
        Check.fault(x, "age>1&", true, 1, 6);
        Check.fault(x, "age>1|", true, 1, 6);
        Check.fault(x, "age+>1", true, 1, 4);
        Check.fault(x, "age>1-", true, 1, 6);
        Check.fault(x, "agex>1", true, 1, 0);
        Check.fault(x, "a ge>1", true, 1, 0);
        Check.fault(x, "age>12345", true, 1, 4);
        Check.fault(x, "age>1 2", true, 1, 6);
        Check.fault(x, "age>1>2", true, 1, 5);
        Check.fault(x, "age>1 age>1", true, 1, 6);
        Check.fault(x, "(age>1", true, 1, 6);
        Check.fault(x, "(age)>1", true, 1, 4);
        Check.fault(x, "age>(1)", true, 1, 4);
        Check.fault(x, "age>1)", true, 1, 5);
        Check.fault(x, "()", true, 1, 1);
        Check.fault(x, "!", true, 1, 1);
        Check.fault(x, "1!=2", true, 1, 1);
        Check.fault(x, "1=!2", true, 1, 2);
        Check.fault(x, "-1=1", true, 1, 0);
        Check.fault(x, "1==1", true, 1, 2);
        Check.fault(x, "1<=1", true, 1, 2);
        Check.fault(x, "1=1&&1=1", true, 1, 4);
        Check.fault(x, "1=1;", true, 1, 3);
        Check.fault(x, "1=1\t", true, 1, 3);
        Check.fault(x, "Age=1", true, 1, 0);
        Check.fault(x, "piece=1", true, 1, 0);
        Check.fault(x, "1=1\377", true, 1, 3);
    }

    private static void openOnes() {
        TownBand x = one();
        Check.due("eight !", Check.rule(x, "!!!!!!!!1=1"), 11);
        Check.due("their answer", x.may(0, 0), 1);
        Check.due("eight ( and eight more behind them", Check.rule(x, "((((((((1=1))))))))&!!!!!!!!1=1|!(!(!(!(1=1))))"), 19 + 12 + 16);
        Check.due("! closed at its N's end", Check.rule(x, "!1=1&" + "!1=1&".repeat(10) + "1=1"), 58);
        Check.fault(x, "!!!!!!!!!1=1", true, 4, 8);
        Check.fault(x, "(((((((((1=1)))))))))", true, 4, 8);
        Check.fault(x, "!(!(!(!( !1=1", true, 4, 9);
        Check.fault(x, "!(!(!(!((1=1", true, 4, 8);
        Check.fault(x, "!!!!(1=1|!!!1=1&!!!!", true, 4, 19);
        Check.fault(x, "((((((((1=1(", true, 1, 11);
        Check.fault(x, "!!!!!!!!", true, 1, 8);
    }

    private static void faultLeavesRule() {
        TownBand x = one();
        Check.rule(x, "day<500");
        Check.fault(x, "day>500&", true, 1, 8);
        Check.due("may on day 499", x.may(0, 499), 1);
        Check.due("may on day 500", x.may(0, 500), 0);
        Check.fault(x, "day", false, 1, 0);
        Check.due("may behind a load", x.may(0, 500), 0);
        Check.rule(x, "day>500");
        Check.due("may by the new rule", x.may(0, 501), 1);
    }
}
