/** The bounds of Terms 6 and of promises 9 and 26, a sentence at a time. */
public final class EdgeRuleTest {
    public static void main(String[] args) {
        noRuleAllMay();
        mayOfNoneSuch();
        numbersOf1To4Digits();
        ruleOf800Bytes();
        blanksLikewise();
        lettersOtherwiseAreNone();
        tokensAreCounted();
        comparisonsOnEitherSide();
        sumsFromTheLeft();
        andAheadOfOr();
        notOfItsOwnNAlone();
        ageFrom0To99();
        daysAndDay();
        pastFrom0On();
        outFrom0To30();
        eightOpenOnes();
        openUpToItsNsEnd();
        everyMixOfNine();
        faultLeavesTheRule();
        refusedRuleLeavesAllMay();
        Check.end("EdgeRuleTest");
    }

    private static TownBand one(int age, int joined) {
        TownBand x = new TownBand();
        x.player(age, joined);
        return x;
    }

    private static void says(TownBand x, String text, int day, int want) {
        Check.rule(x, text);
        Check.due("fault(0) of '" + text + "'", x.fault(0), 0);
        Check.due("may on " + day + " by '" + text + "'", x.may(0, day), want);
    }

    private static void noRuleAllMay() {
        TownBand x = Check.band(14);
        for (int p = 0; p < 14; p++) {
            Check.due("may(" + p + ", 0)", x.may(p, 0), 1);
            Check.due("may(" + p + ", 999)", x.may(p, 999), 1);
        }
    }

    private static void mayOfNoneSuch() {
        TownBand x = Check.band(2);
        for (String text : new String[] {"", "1=1", "1=2"}) {
            Check.rule(x, text);
            for (int wrong : new int[] {-1, 2, 14, Edge.LEAST, Edge.MOST}) {
                Check.due("may(" + wrong + ", 0) by '" + text + "'", x.may(wrong, 0), -1);
            }
            for (int wrong : new int[] {-1, 1000, Edge.LEAST, Edge.MOST}) {
                Check.due("may(0, " + wrong + ") by '" + text + "'", x.may(0, wrong), -1);
            }
            int want = text.equals("1=2") ? 0 : 1;
            Check.due("may(1, 0) by '" + text + "'", x.may(1, 0), want);
            Check.due("may(0, 999) by '" + text + "'", x.may(0, 999), want);
        }
    }

    private static void numbersOf1To4Digits() {
        TownBand x = one(20, 0);
        for (String number : new String[] {"7", "07", "007", "0007"}) {
            says(x, number + "=7", 0, 1);
            says(x, "7=" + number, 0, 1);
            says(x, "0+" + number + "=7", 0, 1);
        }
        says(x, "0=0000", 0, 1);
        says(x, "9999>9998", 0, 1);
        says(x, "9999=9998+1", 0, 1);
        says(x, "9999-9999=0", 0, 1);
        Edge.ruleFault("00007=7", 1, 0);
        Edge.ruleFault("7=00007", 1, 2);
        Edge.ruleFault("7+10000=7", 1, 2);
        Edge.ruleFault("7=7-99999", 1, 4);
        Edge.ruleFault("4294967303=7", 1, 0);
        Edge.ruleFault("/=1", 1, 0);
        Edge.ruleFault("1/=1", 1, 1);
        Edge.ruleFault(":=1", 1, 0);
        Edge.ruleFault("1:=1", 1, 1);
    }

    private static void ruleOf800Bytes() {
        Edge.ruleTaken("1" + "+1".repeat(397) + "=398 ", 797);
        Edge.ruleTaken("1=1" + "|1=1".repeat(199) + " ", 799);
        Edge.ruleTaken(Edge.blanks(797) + "1=1", 3);
        Edge.ruleTaken("1=1" + Edge.blanks(797), 3);
        Edge.ruleFault(Edge.blanks(800), 1, 800);
        Edge.ruleFault("1=" + Edge.blanks(798), 1, 800);
        Edge.ruleFault("1=1" + "|1=1".repeat(199) + "|", 1, 800);
        Edge.ruleFault("1=1" + Edge.blanks(796) + "|", 1, 800);
        Edge.ruleFault("1=1" + Edge.blanks(796) + ")", 1, 799);
        Edge.ruleFault("1=1&" + "9".repeat(796), 1, 4);
        Edge.ruleFault("1=1&" + "a".repeat(796), 1, 4);
        Edge.ruleFault("(".repeat(800), 4, 8);
        Edge.ruleFault("!".repeat(800), 4, 8);
        TownBand x = one(20, 0);
        says(x, "9999" + "+9999".repeat(158) + ">9999", 0, 1);
        says(x, "0" + "-9999".repeat(158) + "<0", 0, 1);
    }

    private static void blanksLikewise() {
        String[] tokens = {"!", "(", "age", "<", "18", ")", "&", "days", "+", "1", ">", "2", "|", "past", "-", "out", "=", "day"};
        for (String blank : new String[] {"", " ", "\n", "  ", "\n\n", " \n "}) {
            Edge.ruleTaken(blank + String.join(blank, tokens) + blank, 18);
        }
        for (int b : new int[] {0, 9, 11, 13, 31, 127, 160, 255}) {
            Edge.ruleFault("1=1" + (char) b, 1, 3);
            Edge.ruleFault("1" + (char) b + "=1", 1, 1);
        }
        Edge.ruleFault("1 0=10", 1, 2);
        Edge.ruleFault("a ge=1", 1, 0);
        Edge.ruleFault("da y=1", 1, 0);
    }

    private static void lettersOtherwiseAreNone() {
        String[] none = {"a", "ag", "ages", "da", "dayz", "dayss", "pas", "pasts", "ou", "outs", "or", "piece", "must", "may",
            "ageage", "agedays", "x", "abcdefghij"};
        for (String letters : none) {
            Edge.ruleFault(letters + "=1", 1, 0);
            Edge.ruleFault("1=" + letters, 1, 2);
            Edge.ruleFault("1=1 " + letters, 1, 4);
        }
        for (String value : new String[] {"age", "days", "past", "out", "day"}) {
            Edge.ruleTaken(value + "=1", 3);
            Edge.ruleTaken("1>" + value, 3);
            Edge.ruleFault("1=1" + value, 1, 3);
        }
        Edge.ruleFault("Age=1", 1, 0);
        Edge.ruleFault("age`=1", 1, 3);
        Edge.ruleFault("age{=1", 1, 3);
    }

    private static void tokensAreCounted() {
        Edge.ruleTaken("1=1", 3);
        Edge.ruleTaken("9999=9999", 3);
        Edge.ruleTaken("!1=1", 4);
        Edge.ruleTaken("(1=1)", 5);
        Edge.ruleTaken("days+1-day<past", 7);
        Edge.ruleTaken(" ( 1 = 1 ) | ! age > out ", 10);
        Edge.ruleTaken("!!!!!!!!1=1", 11);
        Edge.ruleTaken("((((((((1=1))))))))", 19);
    }

    private static void comparisonsOnEitherSide() {
        TownBand x = one(20, 0);
        int[][] want = {{19, 0, 0, 1}, {20, 0, 1, 0}, {21, 1, 0, 0}};
        for (int[] w : want) {
            says(x, "age<" + w[0], 0, w[1]);
            says(x, "age=" + w[0], 0, w[2]);
            says(x, "age>" + w[0], 0, w[3]);
        }
    }

    private static void sumsFromTheLeft() {
        TownBand x = one(20, 0);
        says(x, "10-3-2=5", 0, 1);
        says(x, "10-3+2=9", 0, 1);
        says(x, "0-1<0", 0, 1);
        says(x, "0-1+1=0", 0, 1);
        says(x, "5=10-3-2", 0, 1);
        says(x, "0-9999-9999<0-9999", 0, 1);
    }

    private static void andAheadOfOr() {
        TownBand x = one(20, 0);
        String[] values = {"1=2", "1=1"};
        for (int a = 0; a <= 1; a++) {
            for (int b = 0; b <= 1; b++) {
                for (int c = 0; c <= 1; c++) {
                    says(x, values[a] + "|" + values[b] + "&" + values[c], 0, a | b & c);
                    says(x, values[a] + "&" + values[b] + "|" + values[c], 0, a & b | c);
                    says(x, "(" + values[a] + "|" + values[b] + ")&" + values[c], 0, (a | b) & c);
                    says(x, values[a] + "&(" + values[b] + "|" + values[c] + ")", 0, a & (b | c));
                }
            }
        }
    }

    private static void notOfItsOwnNAlone() {
        TownBand x = one(20, 0);
        says(x, "!1=1|1=1", 0, 1);
        says(x, "!1=2&1=2", 0, 0);
        says(x, "!(1=1|1=1)", 0, 0);
        says(x, "!(1=2&1=2)", 0, 1);
        says(x, "1=1&!1=2", 0, 1);
        for (int n = 1; n <= 8; n++) {
            says(x, "!".repeat(n) + "1=1", 0, n % 2 == 0 ? 1 : 0);
        }
    }

    private static void ageFrom0To99() {
        for (int age : new int[] {0, 1, 98, 99}) {
            TownBand x = one(age, 5);
            says(x, "age=" + age, 3, 1);
            says(x, "age<" + age, 3, 0);
            says(x, "age>" + age, 3, 0);
        }
    }

    private static void daysAndDay() {
        int[][] want = {{0, 0}, {0, 999}, {999, 0}, {999, 999}, {500, 499}, {500, 500}, {500, 501}};
        for (int[] w : want) {
            TownBand x = one(20, w[0]);
            says(x, "days+" + w[0] + "=" + w[1], w[1], 1);
            says(x, "day=" + w[1], w[1], 1);
            says(x, "days<0", w[1], w[1] < w[0] ? 1 : 0);
            says(x, "days=0", w[1], w[1] == w[0] ? 1 : 0);
        }
    }

    private static void pastFrom0On() {
        TownBand x = one(20, 0);
        x.player(20, 0);
        for (int n = 0; n <= 30; n++) {
            says(x, "past=" + n, 0, 1);
            Check.due("past of the other", x.may(1, 0), n == 0 ? 1 : 0);
            x.contest(0);
        }
    }

    private static void outFrom0To30() {
        TownBand x = one(20, 0);
        x.player(20, 0);
        says(x, "out=0", 999, 1);
        for (int copy = 0; copy < 30; copy++) {
            x.tell(copy, 500, 0);
        }
        says(x, "out=30", 500, 1);
        Check.due("out of the other", x.may(1, 500), 0);
        says(x, "out=0", 499, 1);
        Check.due("out of the other", x.may(1, 500), 1);
        x.tell(0, 500, 1);
        x.tell(1, 501, -1);
        x.tell(2, 502, -2);
        says(x, "out=29", 500, 1);
        says(x, "out=28", 501, 1);
        says(x, "out=27", 502, 1);
        says(x, "out=1", 499, 0);
        Check.due("out of the other ahead of the day", x.may(1, 499), 0);
        Check.due("out of the other on the day", x.may(1, 500), 1);
    }

    private static void eightOpenOnes() {
        for (int n = 0; n <= 8; n++) {
            Edge.ruleTaken("!".repeat(n) + "1=1", 3 + n);
            Edge.ruleTaken("(".repeat(n) + "1=1" + ")".repeat(n), 3 + 2 * n);
        }
        Edge.ruleFault("!!!!!!!!!1=1", 4, 8);
        Edge.ruleFault("(((((((((1=1)))))))))", 4, 8);
        Edge.ruleFault("((((((((\n (1=1)))))))))", 4, 10);
        Edge.ruleFault("1=1&!!!!!!!!!1=1", 4, 12);
    }

    private static void openUpToItsNsEnd() {
        Edge.ruleTaken("((((((((1=1))))))))&((((((((1=1))))))))", 39);
        Edge.ruleTaken("!!!!!!!!1=1|!!!!!!!!1=1", 23);
        Edge.ruleTaken("!1=1&!1=1&!1=1&!1=1&!1=1&!1=1&!1=1&!1=1&!1=1", 44);
        Edge.ruleTaken("(1=1)|(1=1)|(1=1)|(1=1)|(1=1)|(1=1)|(1=1)|(1=1)|(1=1)", 53);
        Edge.ruleTaken("!(!1=1&!1=1)&!!!!!!!!1=1", 24);
        Edge.ruleTaken("!(1=1&!!!!!!1=1)", 16);
        Edge.ruleFault("!(1=1&!!!!!!!1=1)", 4, 12);
        Edge.ruleTaken("!(1=1|(1=1)&!!!!!!1=1)", 22);
        Edge.ruleFault("!(1=1|(1=1)&!!!!!!!1=1)", 4, 18);
        Edge.ruleFault("!!(!!1=1|!!!!!!1=1)", 4, 14);
        Edge.ruleTaken("!!(!!1=1|!!!!!1=1)", 18);
    }

    // The ninth of any row of ! and ( is at place 8; eight of them are taken.
    private static void everyMixOfNine() {
        for (int mix = 0; mix < 512; mix += 3) {
            StringBuilder open = new StringBuilder();
            StringBuilder close = new StringBuilder();
            for (int i = 0; i < 8; i++) {
                boolean isNot = (mix >> i & 1) == 1;
                open.append(isNot ? "!" : "(");
                close.append(isNot ? "" : ")");
            }
            Edge.ruleTaken(open + "1=1" + close, 11 + close.length());
            Edge.ruleFault(open + (mix > 255 ? "!" : "(") + "1=1", 4, 8);
            Edge.ruleFault(open.toString(), 1, 8);
        }
    }

    private static void faultLeavesTheRule() {
        TownBand x = one(20, 0);
        Check.rule(x, "day<500");
        for (String text : new String[] {"", "1", "day>499&", "1=1)", "!!!!!!!!!1=1", "day>499 day>499"}) {
            Check.due("rule '" + text + "'", Check.rule(x, text), -1);
            Check.due("may(0, 499) behind '" + text + "'", x.may(0, 499), 1);
            Check.due("may(0, 500) behind '" + text + "'", x.may(0, 500), 0);
        }
        Check.due("a load", Check.load(x, "piece a:1 1 1;"), 1);
        Check.due("may(0, 500) behind a load", x.may(0, 500), 0);
        Check.due("another rule", Check.rule(x, "day>499"), 3);
        Check.due("may(0, 499) by it", x.may(0, 499), 0);
        Check.due("may(0, 500) by it", x.may(0, 500), 1);
    }

    private static void refusedRuleLeavesAllMay() {
        TownBand x = one(20, 0);
        Check.due("rule '1=2&'", Check.rule(x, "1=2&"), -1);
        Check.due("may(0, 0), no rule still", x.may(0, 0), 1);
        Check.due("rule of no byte", x.rule(), -1);
        Check.due("may(0, 999), no rule still", x.may(0, 999), 1);
    }
}
