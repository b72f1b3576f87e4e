/** Promises 19 to 21: the programme, its pieces in order, and its strain. */
public final class ProgrammeTest {
    public static void main(String[] args) {
        wrongInputs();
        longest();
        lips();
        leastStrain();
        firstOfEqual();
        playableOnesAlone();
        stays();
        tenPieces();
        Check.end("ProgrammeTest");
    }

    private static void planned(String call, TownBand x, int... want) {
        for (int i = 0; i < want.length; i++) {
            Check.due(call + ": plan(" + i + ")", x.plan(i), want[i]);
        }
        Check.due(call + ": plan behind the last", x.plan(want.length), -1);
        Check.due(call + ": count(5)", x.count(5), want.length);
    }

    private static void wrongInputs() {
        TownBand x = new TownBand();
        Check.load(x, "piece a:5 1 1;");
        Check.due("programme(600, 18)", x.programme(600, 18), 5);
        int[][] wrong = {{-1, 0}, {601, 0}, {0, -1}, {0, 19}, {Integer.MAX_VALUE, 5}, {5, Integer.MIN_VALUE}};
        for (int[] w : wrong) {
            Check.due("programme(" + w[0] + ", " + w[1] + ")", x.programme(w[0], w[1]), -1);
        }
        planned("it stays", x, 0);
        Check.due("plan(-1)", x.plan(-1), -1);
        Check.due("plan(10)", x.plan(10), -1);
        Check.due("programme(0, 0)", x.programme(0, 0), 0);
        planned("empty", x);
        Check.due("strain of the empty one", x.strain(), 0);
    }

    private static void longest() {
        TownBand x = new TownBand();
        Check.load(x, "piece a:30 0 0;piece b:20 0 6;piece c:15 0 0;piece d:12 0 0;");
        Check.due("programme(48, 18)", x.programme(48, 18), 47);
        planned("20 and 15 and 12", x, 1, 2, 3);
        Check.due("strain", x.strain(), 6);
        Check.due("programme(46, 18)", x.programme(46, 18), 45);
        planned("30 and 15", x, 0, 2);
        Check.due("programme(600, 18)", x.programme(600, 18), 77);
        Check.due("programme(11, 18)", x.programme(11, 18), 0);
        planned("none is so short", x);
        Check.due("programme(12, 0)", x.programme(12, 0), 12);
        planned("just so long", x, 3);
    }

    private static void lips() {
        TownBand x = new TownBand();
        Check.load(x, "piece a:10 9 0;piece b:10 9 0;piece c:10 1 6;");
        Check.due("programme(600, 18)", x.programme(600, 18), 30);
        planned("all", x, 0, 1, 2);
        Check.due("strain", x.strain(), 6);
        Check.due("programme(600, 17)", x.programme(600, 17), 30);
        planned("the easy one between", x, 0, 2, 1);
        Check.due("strain", x.strain(), 12);
        Check.due("programme(600, 10)", x.programme(600, 10), 30);
        Check.due("programme(600, 9)", x.programme(600, 9), 10);
        planned("one alone", x, 0);
    }

    private static void leastStrain() {
        TownBand x = new TownBand();
        Check.load(x, "piece a:1 0 0;piece b:1 0 6;piece c:1 0 11;piece d:1 0 1;");
        Check.due("programme(4, 0)", x.programme(4, 0), 4);
        planned("round the ring", x, 1, 2, 0, 3);
        Check.due("strain", x.strain(), 7);
        Check.due("programme(2, 0)", x.programme(2, 0), 2);
        planned("two near ones", x, 0, 2);
        Check.due("strain", x.strain(), 1);
    }

    private static void firstOfEqual() {
        TownBand x = new TownBand();
        Check.load(x, "piece a:5 9 3;piece b:4 0 3;piece c:3 0 3;piece d:2 0 3;piece e:1 0 3;");
        Check.due("programme(5, 18)", x.programme(5, 18), 5);
        planned("a alone is the first", x, 0);
        Check.due("programme(6, 18)", x.programme(6, 18), 6);
        planned("a and e", x, 0, 4);
        Check.due("programme(7, 8)", x.programme(7, 8), 7);
        planned("b, c is ahead of b, d, e", x, 1, 2);
        Check.due("programme(15, 9)", x.programme(15, 9), 15);
        planned("all in order", x, 0, 1, 2, 3, 4);
        Check.due("strain", x.strain(), 0);
    }

    private static void playableOnesAlone() {
        TownBand x = Check.band(1);
        x.plays(0, 3, 3);
        Check.load(x, "piece a:50 1 1,must 4;piece b:5 1 1,must 3;piece c:6 1 1,may 4;");
        Check.due("programme(600, 18)", x.programme(600, 18), 11);
        planned("b and c", x, 1, 2);
        x.here(0, false);
        Check.due("programme(600, 18) without 0", x.programme(600, 18), 6);
        planned("c", x, 2);
    }

    private static void stays() {
        TownBand x = Check.band(1);
        x.plays(0, 3, 3);
        Check.load(x, "piece a:5 1 1,must 3;piece b:5 1 5,must 3;");
        Check.due("programme(10, 2)", x.programme(10, 2), 10);
        x.here(0, false);
        Check.load(x, "piece c:60 1 1;");
        planned("whoever goes", x, 0, 1);
        Check.due("strain", x.strain(), 4);
    }

    private static void tenPieces() {
        TownBand x = new TownBand();
        StringBuilder text = new StringBuilder();
        for (int k = 0; k < 10; k++) {
            text.append("piece ").append((char) ('a' + k)).append(":60 9 ").append(k * 5 % 12).append(";");
        }
        Check.load(x, text.toString());
        Check.due("programme(600, 18)", x.programme(600, 18), 600);
        Check.due("strain", x.strain(), 10);
        Check.due("programme(599, 18)", x.programme(599, 18), 540);
        Check.due("programme(600, 17)", x.programme(600, 17), 60);
        planned("one alone", x, 0);
    }
}
