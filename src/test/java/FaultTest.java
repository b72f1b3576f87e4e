/** FAULTS 1 to 4 of a text and of a rule: each at its place, two at one place, and two at two places. */
public final class FaultTest {
    public static void main(String[] args) {
        nothingElseCanStandThere();
        theEndIsTheTextsLength();
        nameThatIsThereAlready();
        twoAtOnePlace();
        twoAtTwoPlaces();
        elevenAtTheirPlaces();
        nothingElseCanStandInARule();
        theEndIsTheRulesLength();
        twoAtOnePlaceOfARule();
        twoAtTwoPlacesOfARule();
        Check.end("FaultTest");
    }

    // Every token but those that the text goes on with is a fault at its own place.
    private static void nothingElseCanStandThere() {
        String[] all = {"piece", "must", "may", "or", "ab", "abcdefg", "7", "777", ":", ",", ";", "!", "A", "\0"};
        String[][] steps = {{"", "piece"}, {"piece ", "ab"}, {"piece c ", ":"}, {"piece c: ", "7"}, {"piece c:7 ", "7"},
            {"piece c:7 7 ", "7"}, {"piece c:7 7 7 ", ",", ";"}, {"piece c:7 7 7, ", "must", "may"},
            {"piece c:7 7 7,may ", "7"}, {"piece c:7 7 7,may 6 ", "or", ",", ";"}, {"piece c:7 7 7,may 6 or ", "7"},
            {"piece c:7 7 7,may 6 or 7 ", "or", ",", ";"}, {"piece c:7 7 7; ", "piece"}};
        for (String[] step : steps) {
            for (String token : all) {
                if (!isAmong(step, token)) {
                    Edge.textFault(step[0] + token, 1, step[0].length());
                }
            }
        }
    }

    private static boolean isAmong(String[] step, String token) {
        for (int i = 1; i < step.length; i++) {
            if (step[i].equals(token)) {
                return true;
            }
        }
        return false;
    }

    private static void theEndIsTheTextsLength() {
        String[] whole = {"piece", " ab", ":", "60", " 9", " 11", ",", "must", " 0", " or", " 1", " or 2", ",may", " 3"};
        String text = "";
        for (String more : whole) {
            text = text + more;
            Edge.textFault(text, 1, text.length());
            Edge.textFault(text + " ", 1, text.length() + 1);
            Edge.textFault(text + "\n \n", 1, text.length() + 3);
        }
        Edge.textTaken(text + ";", 1);
        Edge.textTaken(text + ";\n \n", 1);
    }

    private static void nameThatIsThereAlready() {
        String there = "piece ab:1 1 1;piece cd:1 1 1;";
        Edge.textFault(there, "piece ab:1 1 1;", 2, 6);
        Edge.textFault(there, "piece cd:1 1 1;", 2, 6);
        Edge.textFault(there, "piece ef:1 1 1; piece  cd:1 1 1;", 2, 23);
        Edge.textFault(there, "piece ef:1 1 1;piece ef:1 1 1;", 2, 21);
        Edge.textFault("piece ef:1 1 1;piece gh:1 1 1;piece ef:1 1 1;", 2, 36);
        TownBand x = Edge.library(there);
        Check.fault(x, "piece ef:1 1 1;piece ab:1 1 1;", false, 2, 21);
        Check.due("one of a text with a fault is free", Check.load(x, "piece ef:1 1 1;"), 3);
        Check.fault(x, "piece ef:1 1 1;", false, 2, 6);
        lastOfTenNames();
    }

    private static void lastOfTenNames() {
        Edge.textFault(Edge.pieces(9) + "piece i:1 1 1;", 2, 132);
        Edge.textFault(Edge.pieces(9), "piece i:1 1 1;", 2, 6);
        Edge.textFault(Edge.pieces(9), "piece a:1 1 1;", 2, 6);
    }

    // What can't stand there is told as that, whatever else it might be.
    private static void twoAtOnePlace() {
        Edge.textFault("piece a:1 1 1;", "a", 1, 0);
        Edge.textFault("piece a:1 1 1;", "piece b:1 1 1,a", 1, 14);
        Edge.textFault("piece a:1 1 1 99;", 1, 14);
        Edge.textFault("piece a:1 1 1,may 3 3;", 1, 20);
        Edge.textFault("piece a:1 1 1,may 3 99;", 1, 20);
        Edge.textFault("piece a:1 1 1,may 0 or 1 or 2 or or", 1, 33);
        Edge.textFault("piece a:1 1 1,may 0 or 1 or 2 or 3,or", 1, 35);
        Edge.textFault("piece a:1 1 1" + ",may 0".repeat(9) + ",may ,", 1, 72);
        Edge.textFault("piece a:1 1 1" + ",may 0".repeat(10) + ";,", 1, 74);
        Edge.textFault(Edge.pieces(9) + "piece j:1 1 1 piece", 1, 140);
        Edge.textFault(Edge.pieces(9), "piece piece", 1, 6);
        Edge.textFault(Edge.pieces(10), "a", 1, 0);
        Edge.textFault(Edge.pieces(10), ";", 1, 0);
        Edge.textFault(Edge.pieces(10), "pieces", 1, 0);
    }

    private static void twoAtTwoPlaces() {
        Edge.textFault("piece a:61 10 12;", 3, 8);
        Edge.textFault("piece a:60 10 12;", 3, 11);
        Edge.textFault("piece a:60 9 12,x", 3, 13);
        Edge.textFault("piece a 61 1 1;", 1, 8);
        Edge.textFault("piece a:1 1 1,may 10 or 10;", 3, 18);
        Edge.textFault("piece a:1 1 1,may 3 or 3 or;", 3, 23);
        Edge.textFault("piece a:1 1 1,may 3 or or 3;", 1, 23);
        Edge.textFault("piece a:1 1 1;", "piece a:61 1 1;", 2, 6);
        Edge.textFault("piece a:1 1 1;", "piece a;", 2, 6);
        Edge.textFault("piece a:1 1 1;", "piece b:61 1 1;piece a:1 1 1;", 3, 8);
        Edge.textFault("piece a:1 1 1;", "piece b:1 1 1 piece a:1 1 1;", 1, 14);
        Edge.textFault("piece a:1 1 1;piece a:1 1 1;\0", 2, 20);
        Edge.textFault("piece a:1 1 1,may 0 or 1 or 2 or 3 or 3;", 4, 35);
        Edge.textFault("piece a:1 1 1,may 0 or 1 or 2 or 2 or 3;", 3, 33);
        Edge.textFault("piece a:1 1 1" + ",may 0".repeat(10) + ",must 10;", 4, 73);
        Edge.textFault("piece a:1 1 1" + ",may 0".repeat(9) + ",must 10,may 0;", 3, 73);
        Edge.textFault(Edge.pieces(10), "piece a:61 1 1;", 4, 0);
        Edge.textFault(Edge.pieces(9), "piece j:61 1 1;piece k:1 1 1;", 3, 8);
        Edge.textFault(Edge.pieces(9), "piece a:1 1 1;piece k:1 1 1;", 2, 6);
        Edge.textFault(Edge.pieces(9), "piece j:1 1 1;piece a:1 1 1;", 4, 14);
    }

    private static void elevenAtTheirPlaces() {
        Edge.textFault(Edge.pieces(10) + "\n piece", 4, 142);
        Edge.textFault(Edge.pieces(10), "\npiece", 4, 1);
        Edge.textFault("piece a:1 1 1" + ",may 0".repeat(10) + "\n,", 4, 74);
        Edge.textFault("piece b:1 1 1;piece a:1 1 1" + ",may 0".repeat(10) + ",", 4, 87);
        Edge.textFault("piece a:1 1 1,may 0 or 1 or 2 or 3\n or", 4, 36);
        Edge.textFault("piece a:1 1 1,may 0 or 1 or 2 or 3,may 0 or 1 or 2 or 3 or", 4, 56);
    }

    private static void nothingElseCanStandInARule() {
        String[] all = {"age", "days", "past", "out", "day", "agee", "ag", "1", "9999", "10000", "!", "(", ")", "<", "=",
            ">", "+", "-", "|", "&", ":", ",", ";", "*", "A", "\0"};
        String start = "age days past out day 1 9999 ! (";
        String value = "age days past out day 1 9999";
        String[][] steps = {{"", start}, {"! ", start}, {"( ", start}, {"1=1& ", start}, {"1=1| ", start},
            {"1 ", "< = > + -"}, {"1+ ", value}, {"1- ", value}, {"1+1 ", "< = > + -"}, {"1< ", value}, {"1= ", value},
            {"1> ", value}, {"1=1 ", "+ - | &"}, {"(1=1 ", "+ - | & )"}, {"(1=1) ", "| &"}, {"((1=1) ", "| & )"},
            {"1=1+ ", value}, {"!1=1 ", "+ - | &"}, {"!(1=1) ", "| &"}};
        for (String[] step : steps) {
            for (String token : all) {
                boolean goesOn = (" " + step[1] + " ").contains(" " + token + " ");
                if (!goesOn) {
                    Edge.ruleFault(step[0] + token, 1, step[0].length());
                }
            }
        }
    }

    private static void theEndIsTheRulesLength() {
        String[] open = {"", "!", "(", "age", "days+", "past-1", "out<", "day=1+", "1=1&", "1=1|", "(1=1", "(1=1|1=1",
            "!(1=1&", "((1=1)"};
        for (String text : open) {
            Edge.ruleFault(text, 1, text.length());
            Edge.ruleFault(text + " ", 1, text.length() + 1);
            Edge.ruleFault(text + "\n \n", 1, text.length() + 3);
        }
    }

    private static void twoAtOnePlaceOfARule() {
        Edge.ruleFault("((((((((1(", 1, 9);
        Edge.ruleFault("((((((((1=(", 1, 10);
        Edge.ruleFault("!!!!!!!!1!", 1, 9);
        Edge.ruleFault("!!!!!!!!1=1+!", 1, 12);
        Edge.ruleFault("((((((((1=1)(", 1, 12);
    }

    private static void twoAtTwoPlacesOfARule() {
        Edge.ruleFault("!!!!!!!!!)", 4, 8);
        Edge.ruleFault("((((((((((", 4, 8);
        Edge.ruleFault("!!!!!!!!)!", 1, 8);
        Edge.ruleFault("!!!!!!!)!!", 1, 7);
        Edge.ruleFault("x!!!!!!!!!", 1, 0);
        Edge.ruleFault("10000=x", 1, 0);
        Edge.ruleFault("1=x&10000=1", 1, 2);
    }
}
