/** The bounds of Terms 2 and of promises 6 to 8, 10 and 11, a sentence at a time. */
public final class EdgeTextTest {
    private static final String[] WORDS = {"piece", "must", "may", "or"};

    public static void main(String[] args) {
        tapeOf800BytesAtMost();
        refusedFeedLeavesTheTape();
        bytesComeBehindThoseOnTheTape();
        highestByteFirst();
        endFrom0ToAll();
        emptyTape();
        textOf800Bytes();
        tapeIsEmptyBehindReading();
        minutesFrom1To60();
        lipsFrom0To9();
        keyFrom0To11();
        instrumentFrom0To9();
        namesOf1To6Letters();
        namesThatDifferInOneLetter();
        wordsAreNoNames();
        numbersOf1Or2Digits();
        lettersAndDigitsEndAtTheirNeighbours();
        blanksAre32And10();
        loadTellsAllPieces();
        piecesFromNoneTo10();
        partsFromNoneTo10();
        threeOrsAtMost();
        pieceOfNoneSuch();
        whatOfAPiece();
        tenPartsOfFourInstruments();
        faultAheadOfAnyReading();
        faultOfTheLatestReading();
        Check.end("EdgeTextTest");
    }

    private static void tapeOf800BytesAtMost() {
        TownBand x = new TownBand();
        for (int n = 20; n <= 800; n += 20) {
            Check.due("feed to " + n, x.feed(n, n, n, n, n), n);
        }
        Check.due("feed to 820", x.feed(1, 1, 1, 1, 1), -1);
        Check.due("end(800)", x.end(800), 800);
        Check.due("end(781)", x.end(781), 781);
        Check.due("feed to 801", x.feed(1, 1, 1, 1, 1), -1);
        Check.due("end(780)", x.end(780), 780);
        Check.due("feed to 800", x.feed(1, 1, 1, 1, 1), 800);
        Check.due("feed to 820 again", x.feed(1, 1, 1, 1, 1), -1);
    }

    private static void refusedFeedLeavesTheTape() {
        TownBand x = new TownBand();
        Check.put(x, "piece a:1 2 3;" + Edge.blanks(767));
        Check.due("781 are there, feed", x.feed(-1, -1, -1, -1, -1), -1);
        Check.due("end(782)", x.end(782), -1);
        Check.due("end(781)", x.end(781), 781);
        Check.due("load()", x.load(), 1);
        Check.due("key", x.piece(0, 2), 3);
    }

    private static void bytesComeBehindThoseOnTheTape() {
        TownBand x = new TownBand();
        Check.put(x, "piece ab:12 ");
        Check.due("feed behind 12", x.feed(0x33203131, 0x3b200a20, 0x20202020, 0x20202020, 0x20202020), 32);
        Check.due("load()", x.load(), 1);
        Check.due("minutes", x.piece(0, 0), 12);
        Check.due("lips", x.piece(0, 1), 3);
        Check.due("key", x.piece(0, 2), 11);
    }

    // Twenty bytes of which each is another one: "piece q:47 5 11,may3".
    private static void highestByteFirst() {
        TownBand x = new TownBand();
        Check.due("feed", x.feed(0x70696563, 0x6520713a, 0x34372035, 0x2031312c, 0x6d617933), 20);
        Check.due("load of what ends there", x.load(), -1);
        Check.due("its place", x.fault(1), 20);
        x.feed(0x70696563, 0x6520713a, 0x34372035, 0x2031312c, 0x6d617933);
        x.feed(0x3bffffff, -1, -1, -1, -1);
        x.end(21);
        Check.due("load with its ;", x.load(), 1);
        int[][] want = {{0, 47}, {1, 5}, {2, 11}, {3, 1}, {4, 0}, {100, 3}};
        for (int[] w : want) {
            Check.due("piece(0, " + w[0] + ")", x.piece(0, w[0]), w[1]);
        }
    }

    private static void endFrom0ToAll() {
        TownBand x = new TownBand();
        x.feed(0, 0, 0, 0, 0);
        for (int wrong : new int[] {-1, 21, 800, Edge.LEAST, Edge.MOST}) {
            Check.due("end(" + wrong + ") of 20", x.end(wrong), -1);
        }
        Check.due("end(20) of 20", x.end(20), 20);
        Check.due("end(19) of 20", x.end(19), 19);
        Check.due("end(20) of 19", x.end(20), -1);
        Check.due("end(1) of 19", x.end(1), 1);
        Check.due("end(0) of 1", x.end(0), 0);
        Check.due("end(1) of none", x.end(1), -1);
        Check.due("end(0) of none", x.end(0), 0);
        Check.due("end(-1) of none", x.end(-1), -1);
        Check.due("feed behind none", x.feed(0, 0, 0, 0, 0), 20);
    }

    private static void emptyTape() {
        TownBand x = new TownBand();
        Check.due("load of no byte", x.load(), 0);
        Check.due("its fault", x.fault(0), 0);
        Check.due("its place", x.fault(1), -1);
        Check.due("rule of no byte", x.rule(), -1);
        Check.due("its fault", x.fault(0), 1);
        Check.due("its place", x.fault(1), 0);
        Edge.textTaken(" ", 0);
        Edge.textTaken("\n", 0);
        Edge.textTaken(Edge.blanks(800), 0);
    }

    private static void textOf800Bytes() {
        Edge.textTaken(Edge.blanks(786) + "piece a:1 1 1;", 1);
        Edge.textTaken("piece a:1 1 1;" + Edge.blanks(786), 1);
        Edge.textTaken("piece a:1" + Edge.blanks(400) + "1" + Edge.blanks(388) + "1;", 1);
        Edge.textFault(Edge.blanks(787) + "piece a:1 1 1", 1, 800);
        Edge.textFault("piece a:1 1 1" + Edge.blanks(787), 1, 800);
        Edge.textFault(Edge.blanks(799) + ";", 1, 799);
        Edge.textFault(Edge.blanks(795) + "piece", 1, 800);
        Edge.textFault("piece " + "a".repeat(794), 1, 6);
        Edge.textFault("piece a:" + "1".repeat(792), 1, 8);
        Edge.textFault("\0".repeat(800), 1, 0);
        Edge.textFault("piece a:1 1 1;" + "\377".repeat(786), 1, 14);
    }

    private static void tapeIsEmptyBehindReading() {
        TownBand x = new TownBand();
        Check.put(x, Edge.blanks(800));
        Check.due("load of 800 blanks", x.load(), 0);
        Check.due("end(1) behind it", x.end(1), -1);
        Check.due("feed behind it", x.feed(0, 0, 0, 0, 0), 20);
        Check.due("load of zeros", x.load(), -1);
        Check.due("end(1) behind a fault", x.end(1), -1);
        Check.due("feed behind a fault", x.feed(0, 0, 0, 0, 0), 20);
        Check.due("rule of zeros", x.rule(), -1);
        Check.due("feed behind a rule's fault", x.feed(0, 0, 0, 0, 0), 20);
        x.end(0);
        Check.due("rule", Check.rule(x, "1=1"), 3);
        Check.due("end(1) behind a rule", x.end(1), -1);
        Check.due("load of what is left", x.load(), 0);
    }

    private static void figure(int what, String ahead, String behind, int[] taken, int[] refused) {
        for (int number : taken) {
            TownBand x = new TownBand();
            Check.due("load of " + ahead + number + behind, Check.load(x, ahead + number + behind), 1);
            Check.due("its piece(0, " + what + ")", x.piece(0, what), number);
        }
        for (int number : refused) {
            Edge.textFault(ahead + number + behind, 3, ahead.length());
        }
    }

    private static void minutesFrom1To60() {
        figure(0, "piece a:", " 5 5;", new int[] {1, 2, 59, 60}, new int[] {0, 61, 99});
    }

    private static void lipsFrom0To9() {
        figure(1, "piece a:5 ", " 5;", new int[] {0, 1, 8, 9}, new int[] {10, 11, 99});
    }

    private static void keyFrom0To11() {
        figure(2, "piece a:5 5 ", ";", new int[] {0, 1, 10, 11}, new int[] {12, 13, 99});
    }

    private static void instrumentFrom0To9() {
        figure(100, "piece a:5 5 5,must ", ";", new int[] {0, 1, 8, 9}, new int[] {10, 11, 99});
        figure(101, "piece a:5 5 5,may 5 or ", ",may 3;", new int[] {0, 4, 6, 9}, new int[] {5, 10, 99});
        figure(103, "piece a:5 5 5,may 5 or 6 or 7 or ", ";", new int[] {0, 4, 8, 9}, new int[] {5, 6, 7, 10});
        Edge.textFault("piece a:5 5 5,may 5 or 05;", 3, 23);
        Edge.textTaken("piece a:5 5 5,may 5,may 5,must 5 or 6;", 1);
    }

    private static void namesOf1To6Letters() {
        for (String name : new String[] {"a", "z", "az", "abcdef", "zzzzzz"}) {
            Edge.textTaken("piece " + name + ":1 1 1;", 1);
            Edge.textFault("piece " + name + ":1 1 1;", "piece " + name + ":1 1 1;", 2, 6);
        }
        Edge.textFault("piece abcdefg:1 1 1;", 1, 6);
        Edge.textFault("piece zzzzzzzzzzzzzzzzzzzzzzzzzzzzzz:1 1 1;", 1, 6);
        Edge.textFault("piece :1 1 1;", 1, 6);
        // Seven letters are no NAME, so none that could be there already.
        Edge.textFault("piece abcdef:1 1 1;", "piece abcdefg:1 1 1;", 1, 6);
        TownBand x = new TownBand();
        String alike = "piece a:1 1 1;piece aa:1 1 1;piece aaa:1 1 1;piece aaaa:1 1 1;piece aaaaa:1 1 1;piece aaaaaa:1 1 1;";
        Check.due("load of names that begin alike", Check.load(x, alike), 6);
        Check.due("load of names that end alike", Check.load(x, "piece baaaaa:1 1 1;piece qaaaaa:1 1 1;"), 8);
    }

    private static void namesThatDifferInOneLetter() {
        for (char one = 'a'; one <= 'z'; one++) {
            for (char other = 'a'; other <= 'z'; other++) {
                differ("x" + one, "x" + other);
                differ(one + "xxxxx", other + "xxxxx");
                differ("ax" + one + "xxb", "ax" + other + "xxb");
            }
        }
    }

    private static void differ(String one, String other) {
        TownBand x = new TownBand();
        int want = one.equals(other) ? -1 : 2;
        Check.due("load of " + one + ", " + other, Check.load(x, "piece " + one + ":1 1 1;piece " + other + ":1 1 1;"), want);
        Check.due("fault(0) of " + one + ", " + other, x.fault(0), want == 2 ? 0 : 2);
    }

    private static void wordsAreNoNames() {
        for (String word : WORDS) {
            Edge.textFault("piece " + word + ":1 1 1;", 1, 6);
        }
        for (String name : new String[] {"pieces", "piec", "mus", "musts", "ma", "mays", "o", "ors", "age", "day"}) {
            Edge.textTaken("piece " + name + ":1 1 1;", 1);
        }
        Edge.textFault("pieces a:1 1 1;", 1, 0);
        Edge.textFault("piec a:1 1 1;", 1, 0);
        Edge.textFault("piece a:1 1 1,musts 1;", 1, 14);
        Edge.textFault("piece a:1 1 1,ma 1;", 1, 14);
        Edge.textFault("piece a:1 1 1,may 1 ors 2;", 1, 20);
        Edge.textFault("piece a:1 1 1,may 1 o 2;", 1, 20);
    }

    private static void numbersOf1Or2Digits() {
        Edge.textTaken("piece a:01 09 00,may 00 or 09;", 1);
        String[] aheads = {"piece a:", "piece a:1 ", "piece a:1 1 ", "piece a:1 1 1,may ", "piece a:1 1 1,may 1 or "};
        for (String ahead : aheads) {
            Edge.textFault(ahead + "002", 1, ahead.length());
            Edge.textFault(ahead + "100", 1, ahead.length());
            Edge.textFault(ahead + "4294967298", 1, ahead.length());
            Edge.textFault(ahead, 1, ahead.length());
            Edge.textFault(ahead + "x", 1, ahead.length());
            Edge.textFault(ahead + ";", 1, ahead.length());
        }
    }

    // The bytes next to a, z, 0 and 9 are neither letters nor digits.
    private static void lettersAndDigitsEndAtTheirNeighbours() {
        Edge.textFault("piece `:1 1 1;", 1, 6);
        Edge.textFault("piece {:1 1 1;", 1, 6);
        Edge.textFault("piece a`:1 1 1;", 1, 7);
        Edge.textFault("piece z{:1 1 1;", 1, 7);
        Edge.textFault("piece A:1 1 1;", 1, 6);
        Edge.textFault("piece aZ:1 1 1;", 1, 7);
        Edge.textFault("piece a:/ 1 1;", 1, 8);
        Edge.textFault("piece a:1/ 1 1;", 1, 9);
        Edge.textFault("piece a:9: 1 1;", 1, 9);
        Edge.textFault("piece a:1 1 1\273", 1, 13);
        Edge.textFault("piece \341:1 1 1;", 1, 6);
        Edge.textTaken("piece a:1 1 1,must1or2or3;", 1);
        Edge.textFault("piece a1:1 1 1;", 1, 7);
        Edge.textFault("piece1:1 1 1;", 1, 5);
    }

    private static void blanksAre32And10() {
        String[] tokens = {"piece", "ab", ":", "10", "2", "3", ",", "must", "4", "or", "5", ",", "may", "6", ";"};
        for (String blank : new String[] {" ", "\n", "  ", "\n\n", " \n "}) {
            Edge.textTaken(blank + String.join(blank, tokens) + blank, 1);
        }
        for (int b : new int[] {0, 9, 11, 12, 13, 31, 33, 127, 128, 160, 255}) {
            Edge.textFault("piece a:1 1 1;" + (char) b, 1, 14);
            Edge.textFault("piece a" + (char) b + ":1 1 1;", 1, 7);
        }
        Edge.textFault("pie ce a:1 1 1;", 1, 0);
        Edge.textFault("piece a b:1 1 1;", 1, 8);
        Edge.textFault("piece a:1 1 1 1;", 1, 14);
        Edge.textFault("piece a:1 1\n1 1;", 1, 14);
    }

    private static void loadTellsAllPieces() {
        TownBand x = new TownBand();
        Check.due("the first one", Check.load(x, "piece a:11 1 1;"), 1);
        Check.due("two behind it", Check.load(x, "piece b:12 1 1;piece c:13 1 1;"), 3);
        Check.due("none behind them", x.load(), 3);
        Check.due("a fault", Check.load(x, "piece d:14 1 1;piece e:15 1 1"), -1);
        Check.due("count(2) behind a fault", x.count(2), 3);
        Check.due("piece(3, 0) behind a fault", x.piece(3, 0), -1);
        Check.due("another behind a fault", Check.load(x, "piece e:16 1 1;"), 4);
        int[] minutes = {11, 12, 13, 16};
        for (int k = 0; k < 4; k++) {
            Check.due("piece(" + k + ", 0)", x.piece(k, 0), minutes[k]);
        }
    }

    private static void piecesFromNoneTo10() {
        for (int n = 0; n <= 10; n++) {
            Edge.textTaken(Edge.pieces(n), n);
            TownBand x = Edge.library(Edge.pieces(n));
            Check.due("the rest behind " + n, Check.load(x, Edge.pieces(10).substring(14 * n)), 10);
            Check.due("none behind ten", x.load(), 10);
            Check.due("piece(9, 0)", x.piece(9, 0), 1);
            Check.due("piece(10, 0)", x.piece(10, 0), -1);
            Edge.textFault(Edge.pieces(n), Edge.pieces(11).substring(14 * n), 4, 14 * (10 - n));
        }
        Edge.textFault(Edge.pieces(9), "piece j:1 1 1; \npiece", 4, 16);
        Edge.textFault(Edge.pieces(10), "  piece k:1 1 1;", 4, 2);
        Edge.textTaken(Edge.pieces(10) + " \n", 10);
    }

    private static void partsFromNoneTo10() {
        for (int n = 0; n <= 10; n++) {
            TownBand x = new TownBand();
            Check.due("load of " + n + " parts", Check.load(x, "piece a:1 1 1" + ",must 3".repeat(n) + ";"), 1);
            Check.due("piece(0, 3)", x.piece(0, 3), n);
            Check.due("piece(0, 4)", x.piece(0, 4), (1 << n) - 1);
            Check.due("the last part's instruments", x.piece(0, 9 + n), n == 0 ? -1 : 1);
            Check.due("behind the last part", x.piece(0, 10 + n), -1);
        }
        Edge.textFault("piece a:1 1 1" + ",must 3".repeat(11) + ";", 4, 83);
        Edge.textFault("piece a:1 1 1" + ",may 3".repeat(10) + " ,", 4, 74);
        Edge.textTaken("piece a:1 1 1" + ",may 3".repeat(10) + ";piece b:1 1 1" + ",may 3".repeat(10) + ";", 2);
    }

    private static void threeOrsAtMost() {
        String text = "piece a:1 1 1,may 0";
        for (int n = 1; n <= 4; n++) {
            TownBand x = new TownBand();
            Check.due("load of '" + text + ";'", Check.load(x, text + ";"), 1);
            Check.due("piece(0, 10)", x.piece(0, 10), n);
            Check.due("the last of them", x.piece(0, 99 + n), n - 1);
            Check.due("behind the last of them", x.piece(0, 100 + n), -1);
            text = text + " or " + n;
        }
        Edge.textFault(text + ";", 4, 35);
        Edge.textFault("piece a:1 1 1,must 9,may 0 or 1 or 2 or 3\nor", 4, 42);
        Edge.textTaken("piece a:1 1 1,may 0 or 1 or 2 or 3,must 0 or 1 or 2 or 3;", 1);
    }

    private static void pieceOfNoneSuch() {
        TownBand x = Edge.library(Edge.pieces(3));
        for (int k : new int[] {-1, 3, 9, 10, Edge.LEAST, Edge.MOST}) {
            for (int what = 0; what <= 4; what++) {
                Check.due("piece(" + k + ", " + what + ")", x.piece(k, what), -1);
            }
        }
        Check.due("piece(2, 0)", x.piece(2, 0), 1);
        TownBand empty = new TownBand();
        Check.due("piece(0, 0) of none", empty.piece(0, 0), -1);
    }

    private static void whatOfAPiece() {
        TownBand x = Edge.library("piece a:60 9 11,may 7 or 8,must 6;");
        int[][] want = {{0, 60}, {1, 9}, {2, 11}, {3, 2}, {4, 2}, {10, 2}, {11, 1}, {100, 7}, {101, 8}, {110, 6}};
        int asked = 0;
        for (int what = -20; what <= 220; what++) {
            int due = asked < want.length && want[asked][0] == what ? want[asked++][1] : -1;
            Check.due("piece(0, " + what + ")", x.piece(0, what), due);
        }
        for (int what : new int[] {Edge.LEAST, Edge.MOST, Edge.LEAST + 100, 1000, 1100}) {
            Check.due("piece(0, " + what + ")", x.piece(0, what), -1);
        }
    }

    private static void tenPartsOfFourInstruments() {
        StringBuilder text = new StringBuilder("piece a:1 1 1");
        for (int i = 0; i < 10; i++) {
            text.append(i % 3 == 0 ? ",must" : ",may");
            for (int j = 0; j < 4; j++) {
                text.append(j == 0 ? " " : " or ").append((3 * i + j) % 10);
            }
        }
        TownBand x = Edge.library(text + ";");
        Check.due("piece(0, 4)", x.piece(0, 4), 1 + 8 + 64 + 512);
        for (int i = 0; i < 10; i++) {
            Check.due("piece(0, " + (10 + i) + ")", x.piece(0, 10 + i), 4);
            for (int j = 0; j < 10; j++) {
                int what = 100 + 10 * i + j;
                Check.due("piece(0, " + what + ")", x.piece(0, what), j < 4 ? (3 * i + j) % 10 : -1);
            }
        }
        Check.due("piece(0, 20)", x.piece(0, 20), -1);
        Check.due("piece(0, 200)", x.piece(0, 200), -1);
    }

    private static void faultAheadOfAnyReading() {
        TownBand x = new TownBand();
        x.feed(0, 0, 0, 0, 0);
        Check.due("fault(0) ahead of any", x.fault(0), 0);
        Check.due("fault(1) ahead of any", x.fault(1), -1);
        for (int wrong : new int[] {-1, 2, Edge.LEAST, Edge.MOST}) {
            Check.due("fault(" + wrong + ") ahead of any", x.fault(wrong), -1);
        }
    }

    private static void faults(String call, TownBand x, int kind, int place) {
        Check.due(call + ": fault(0)", x.fault(0), kind);
        Check.due(call + ": fault(1)", x.fault(1), place);
        for (int wrong : new int[] {-1, 2, 3, Edge.LEAST, Edge.MOST}) {
            Check.due(call + ": fault(" + wrong + ")", x.fault(wrong), -1);
        }
    }

    private static void faultOfTheLatestReading() {
        TownBand x = new TownBand();
        Check.load(x, "piece a:0 1 1;");
        faults("a load with one", x, 3, 8);
        Check.put(x, "1=1");
        faults("behind feed and end", x, 3, 8);
        x.rule();
        faults("a rule without one", x, 0, -1);
        Check.rule(x, "(1=1");
        faults("a rule with one", x, 1, 4);
        x.load();
        faults("a load without one", x, 0, -1);
        Check.load(x, "piece a:1 1 1;piece a:1 1 1;");
        faults("a load with another", x, 2, 20);
        x.rule();
        faults("a rule of no byte", x, 1, 0);
    }
}
