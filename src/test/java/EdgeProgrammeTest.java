/** The bounds of Terms 4 and of promises 19 to 21, a sentence at a time. */
public final class EdgeProgrammeTest {
    public static void main(String[] args) {
        minutesFrom0To600();
        lipsFrom0To18();
        noPieces();
        emptyProgramme();
        noPlayablePiece();
        justSoManyMinutes();
        tenPiecesOf60Minutes();
        eachPieceOnce();
        justSoMuchLips();
        lipsOfOnePieceAlone();
        lipsOfNeighboursAlone();
        everyTwoKeysRoundTheRing();
        strainOfNeighboursAlone();
        greatestStrain();
        moreMinutesAheadOfLessStrain();
        lessStrainAheadOfFirst();
        firstOfEqual();
        refusedProgrammeStays();
        programmeStaysWhoeverGoes();
        shorterOneForgetsTheLonger();
        planEdges();
        Check.end("EdgeProgrammeTest");
    }

    private static void minutesFrom0To600() {
        TownBand x = Edge.library("piece a:1 0 0;");
        Check.due("programme(-1, 0)", x.programme(-1, 0), -1);
        Check.due("programme(0, 0)", x.programme(0, 0), 0);
        Check.due("programme(600, 0)", x.programme(600, 0), 1);
        Check.due("programme(601, 0)", x.programme(601, 0), -1);
        Check.due("programme(least, 0)", x.programme(Edge.LEAST, 0), -1);
        Check.due("programme(most, 0)", x.programme(Edge.MOST, 0), -1);
    }

    private static void lipsFrom0To18() {
        TownBand x = Edge.library("piece a:1 9 0;piece b:1 9 0;");
        Check.due("programme(600, -1)", x.programme(600, -1), -1);
        Check.due("programme(600, 0)", x.programme(600, 0), 1);
        Check.due("programme(600, 17)", x.programme(600, 17), 1);
        Check.due("programme(600, 18)", x.programme(600, 18), 2);
        Check.due("programme(600, 19)", x.programme(600, 19), -1);
        Check.due("programme(600, least)", x.programme(600, Edge.LEAST), -1);
        Check.due("programme(600, most)", x.programme(600, Edge.MOST), -1);
        Check.due("programme(-1, -1)", x.programme(-1, -1), -1);
        Edge.plan("the last one taken", x, 0, 1);
    }

    private static void noPieces() {
        TownBand x = new TownBand();
        Edge.plan("none was asked for", x);
        Check.due("programme(0, 0)", x.programme(0, 0), 0);
        Check.due("programme(600, 18)", x.programme(600, 18), 0);
        Check.due("programme(601, 18)", x.programme(601, 18), -1);
        Edge.plan("no pieces", x);
        Check.due("strain()", x.strain(), 0);
    }

    private static void emptyProgramme() {
        TownBand x = Edge.library("piece a:5 0 0;piece b:6 0 6;");
        x.programme(600, 18);
        Check.due("strain of both", x.strain(), 6);
        Check.due("programme(4, 18)", x.programme(4, 18), 0);
        Edge.plan("empty", x);
        Check.due("strain of the empty one", x.strain(), 0);
        Check.due("programme(0, 18)", x.programme(0, 18), 0);
        Edge.plan("empty", x);
    }

    private static void noPlayablePiece() {
        TownBand x = Edge.library("piece a:5 0 0,must 0;piece b:6 0 6,must 0;");
        Check.due("programme(600, 18)", x.programme(600, 18), 0);
        Edge.plan("none is playable", x);
        x.player(5, 5);
        x.plays(0, 0, 0);
        Check.due("programme(600, 18) of one not here", x.programme(600, 18), 0);
        x.here(0, true);
        Check.due("programme(600, 18) of one here", x.programme(600, 18), 11);
        Edge.plan("one player may play both pieces", x, 0, 1);
    }

    private static void justSoManyMinutes() {
        TownBand x = Edge.library("piece a:60 0 0;piece b:7 0 0;piece c:4 0 0;");
        int[][] want = {{3, 0}, {4, 4}, {6, 4}, {7, 7}, {10, 7}, {11, 11}, {59, 11}, {60, 60}, {63, 60}, {64, 64},
            {66, 64}, {67, 67}, {70, 67}, {71, 71}, {72, 71}, {600, 71}};
        for (int[] w : want) {
            Check.due("programme(" + w[0] + ", 0)", x.programme(w[0], 0), w[1]);
        }
    }

    private static void tenPiecesOf60Minutes() {
        TownBand x = Edge.library(Edge.pieces(10).replace(":1 1 1", ":60 9 11"));
        Check.due("programme(600, 18)", x.programme(600, 18), 600);
        Edge.plan("all ten", x, 0, 1, 2, 3, 4, 5, 6, 7, 8, 9);
        Check.due("strain of one key", x.strain(), 0);
        Check.due("programme(599, 18)", x.programme(599, 18), 540);
        Edge.plan("the first nine", x, 0, 1, 2, 3, 4, 5, 6, 7, 8);
        Check.due("programme(60, 18)", x.programme(60, 18), 60);
        Edge.plan("the first", x, 0);
        Check.due("programme(59, 18)", x.programme(59, 18), 0);
    }

    private static void eachPieceOnce() {
        TownBand x = Edge.library("piece a:1 0 5;");
        Check.due("programme(600, 18)", x.programme(600, 18), 1);
        Edge.plan("once", x, 0);
        Check.due("strain of one", x.strain(), 0);
    }

    private static void justSoMuchLips() {
        for (int one = 0; one <= 9; one += 3) {
            for (int other = 0; other <= 9; other += 3) {
                TownBand x = Edge.library("piece a:10 " + one + " 0;piece b:5 " + other + " 0;");
                int both = one + other;
                Check.due("lips just " + both, x.programme(600, both), 15);
                Check.due("lips below " + both, x.programme(600, both - 1), both == 0 ? -1 : 10);
            }
        }
    }

    private static void lipsOfOnePieceAlone() {
        TownBand x = Edge.library("piece a:10 9 0;piece b:5 0 0;");
        Check.due("programme(600, 0)", x.programme(600, 0), 10);
        Edge.plan("one has no neighbour", x, 0);
        Check.due("programme(600, 8)", x.programme(600, 8), 10);
        Check.due("programme(600, 9)", x.programme(600, 9), 15);
    }

    private static void lipsOfNeighboursAlone() {
        TownBand x = Edge.library("piece a:10 9 0;piece b:10 9 0;piece c:1 0 0;");
        Check.due("programme(600, 9)", x.programme(600, 9), 21);
        Edge.plan("the ends are no neighbours", x, 0, 2, 1);
        Check.due("programme(20, 9)", x.programme(20, 9), 11);
        Edge.plan("no two of them without the third", x, 0, 2);
    }

    private static void everyTwoKeysRoundTheRing() {
        for (int one = 0; one < 12; one++) {
            for (int other = 0; other < 12; other++) {
                TownBand x = Edge.library("piece a:1 0 " + one + ";piece b:1 0 " + other + ";");
                int steps = 0;
                while ((one + steps) % 12 != other && (other + steps) % 12 != one) {
                    steps++;
                }
                x.programme(2, 0);
                Check.due("strain of keys " + one + " and " + other, x.strain(), steps);
            }
        }
        TownBand x = Edge.library("piece a:1 0 5;piece b:1 0 11;piece c:1 0 0;piece d:1 0 6;");
        x.programme(4, 0);
        Check.due("strain over the ring's end", x.strain(), 7);
        Edge.plan("over the ring's end", x, 0, 3, 1, 2);
    }

    private static void strainOfNeighboursAlone() {
        TownBand x = Edge.library("piece a:1 0 0;piece b:1 0 4;piece c:1 0 8;");
        x.programme(3, 0);
        Edge.plan("a third of the ring each", x, 0, 1, 2);
        Check.due("strain without the way back", x.strain(), 8);
    }

    private static void greatestStrain() {
        StringBuilder text = new StringBuilder();
        for (int k = 0; k < 10; k++) {
            text.append("piece ").append((char) ('a' + k)).append(k % 2 == 0 ? ":1 9 0;" : ":1 0 6;");
        }
        TownBand x = Edge.library(text.toString());
        Check.due("programme(10, 9)", x.programme(10, 9), 10);
        Edge.plan("no two high ones together, two low ones once", x, 0, 1, 2, 3, 4, 5, 6, 7, 9, 8);
        Check.due("strain of eight sixes", x.strain(), 48);
        Check.due("programme(10, 18)", x.programme(10, 18), 10);
        Edge.plan("one change", x, 0, 2, 4, 6, 8, 1, 3, 5, 7, 9);
        Check.due("strain of one six", x.strain(), 6);
    }

    private static void moreMinutesAheadOfLessStrain() {
        TownBand x = Edge.library("piece a:10 0 0;piece b:10 0 0;piece c:11 0 6;");
        Check.due("programme(21, 0)", x.programme(21, 0), 21);
        Edge.plan("one minute more", x, 0, 2);
        Check.due("strain", x.strain(), 6);
        Check.due("programme(20, 0)", x.programme(20, 0), 20);
        Edge.plan("no strain", x, 0, 1);
        Check.due("strain", x.strain(), 0);
    }

    private static void lessStrainAheadOfFirst() {
        TownBand x = Edge.library("piece a:10 0 0;piece b:10 0 2;piece c:10 0 3;");
        Check.due("programme(20, 0)", x.programme(20, 0), 20);
        Edge.plan("the nearer keys", x, 1, 2);
        Check.due("strain", x.strain(), 1);
        TownBand y = Edge.library("piece a:2 0 0;piece b:1 0 6;piece c:1 0 0;piece d:3 0 6;");
        Check.due("programme(4, 0)", y.programme(4, 0), 4);
        Edge.plan("b and d", y, 1, 3);
        Check.due("strain", y.strain(), 0);
    }

    private static void firstOfEqual() {
        TownBand x = Edge.library("piece a:1 0 4;piece b:2 0 4;piece c:3 0 4;piece d:3 0 4;");
        Check.due("programme(3, 0)", x.programme(3, 0), 3);
        Edge.plan("a row of two ahead of c", x, 0, 1);
        Check.due("programme(6, 0)", x.programme(6, 0), 6);
        Edge.plan("a, b, c ahead of c, d", x, 0, 1, 2);
        TownBand y = Edge.library("piece a:3 0 4;piece b:2 0 4;piece c:1 0 4;");
        y.programme(3, 0);
        Edge.plan("a ahead of a row of two", y, 0);
        TownBand z = Edge.library("piece a:1 0 3;piece b:1 0 0;piece c:1 0 9;");
        z.programme(3, 0);
        Edge.plan("the lesser end first", z, 0, 1, 2);
        Check.due("strain", z.strain(), 6);
    }

    private static void refusedProgrammeStays() {
        TownBand x = Edge.library("piece a:5 0 0;piece b:6 0 5;");
        x.programme(600, 18);
        int[][] wrong = {{-1, 18}, {601, 18}, {600, -1}, {600, 19}};
        for (int[] w : wrong) {
            Check.due("programme(" + w[0] + ", " + w[1] + ")", x.programme(w[0], w[1]), -1);
            Edge.plan("it stays", x, 0, 1);
            Check.due("its strain stays", x.strain(), 5);
        }
    }

    private static void programmeStaysWhoeverGoes() {
        TownBand x = Edge.players(1, 0, 0);
        Check.load(x, "piece a:5 0 0,must 0;piece b:6 0 5,must 0;");
        x.programme(600, 18);
        x.here(0, false);
        Check.due("none is playable", x.count(3), 0);
        Edge.plan("0 went", x, 0, 1);
        x.plays(0, 0, -1);
        Check.load(x, "piece c:7 0 0;");
        Edge.plan("another piece came", x, 0, 1);
        Check.due("strain", x.strain(), 5);
        Check.due("programme(600, 18) then", x.programme(600, 18), 7);
        Edge.plan("anew", x, 2);
    }

    private static void shorterOneForgetsTheLonger() {
        TownBand x = Edge.library(Edge.pieces(10));
        Check.due("programme(10, 18)", x.programme(10, 18), 10);
        Check.due("programme(2, 18)", x.programme(2, 18), 2);
        Edge.plan("two", x, 0, 1);
        Check.due("plan(9)", x.plan(9), -1);
        Check.due("programme(10, 18) again", x.programme(10, 18), 10);
        Check.due("plan(9) again", x.plan(9), 9);
    }

    private static void planEdges() {
        TownBand x = Edge.library(Edge.pieces(10));
        x.programme(600, 18);
        Check.due("plan(0)", x.plan(0), 0);
        Check.due("plan(9)", x.plan(9), 9);
        for (int wrong : new int[] {-1, 10, 11, Edge.LEAST, Edge.MOST}) {
            Check.due("plan(" + wrong + ")", x.plan(wrong), -1);
        }
        x.programme(0, 18);
        Check.due("plan(0) of the empty one", x.plan(0), -1);
        Check.due("plan(-1) of the empty one", x.plan(-1), -1);
    }
}
