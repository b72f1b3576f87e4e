/** Promises 6 to 8, 10 and 11: the tape, a text of pieces, its faults, and what is told of a piece. */
public final class TextTest {
    public static void main(String[] args) {
        tape();
        highestByteFirst();
        pieces();
        blanks();
        faultOfWhatStandsThere();
        faultOfNames();
        faultOfNumbers();
        faultOfTooMany();
        faultLeavesLibrary();
        faultOfLatest();
        whatWasCutIsGone();
        Check.end("TextTest");
    }

    private static void tape() {
        TownBand x = new TownBand();
        for (int i = 1; i <= 40; i++) {
            Check.due("feed " + i, x.feed(0, 0, 0, 0, 0), 20 * i);
        }
        Check.due("feed beyond 800", x.feed(0, 0, 0, 0, 0), -1);
        Check.due("end(801)", x.end(801), -1);
        Check.due("end(-1)", x.end(-1), -1);
        Check.due("end(800)", x.end(800), 800);
        Check.due("end(781)", x.end(781), 781);
        Check.due("feed to 801", x.feed(0, 0, 0, 0, 0), -1);
        Check.due("end(782)", x.end(782), -1);
        Check.due("end(780)", x.end(780), 780);
        Check.due("feed to 800", x.feed(0, 0, 0, 0, 0), 800);
        Check.due("end(0)", x.end(0), 0);
        Check.due("load()", x.load(), 0);
        Check.due("fault(0)", x.fault(0), 0);
        Check.due("feed on the empty tape", x.feed(0, 0, 0, 0, 0), 20);
    }

    private static void highestByteFirst() {
        TownBand x = new TownBand();
        x.feed(0x70696563, 0x65206162, 0x3a363020, 0x39203131, 0x3bffffff);
        Check.due("end(17)", x.end(17), 17);
        Check.due("load()", x.load(), 1);
        Check.due("minutes", x.piece(0, 0), 60);
        Check.due("lips", x.piece(0, 1), 9);
        Check.due("key", x.piece(0, 2), 11);
        x.feed(0xff000000, 0, 0, 0, 0);
        x.end(1);
        Check.due("load of byte 255", x.load(), -1);
        Check.due("its fault", x.fault(0), 1);
        Check.due("its place", x.fault(1), 0);
    }

    private static void pieces() {
        TownBand x = new TownBand();
        Check.due("load", Check.load(x, "piece a:10 4 0,must 0,may 9 or 3 or 01 or 5,must 2 or 0;piece abcdef:1 0 11;"), 2);
        Check.due("count(2)", x.count(2), 2);
        int[][] want = {{0, 10}, {1, 4}, {2, 0}, {3, 3}, {4, 5}, {5, -1}, {9, -1}, {10, 1}, {11, 4}, {12, 2}, {13, -1},
            {19, -1}, {20, -1}, {99, -1}, {100, 0}, {101, -1}, {110, 9}, {111, 3}, {112, 1}, {113, 5}, {114, -1},
            {119, -1}, {120, 2}, {121, 0}, {122, -1}, {130, -1}, {200, -1}, {-1, -1}, {Integer.MAX_VALUE, -1},
            {Integer.MIN_VALUE, -1}};
        for (int[] w : want) {
            Check.due("piece(0, " + w[0] + ")", x.piece(0, w[0]), w[1]);
        }
        int[][] second = {{0, 1}, {1, 0}, {2, 11}, {3, 0}, {4, 0}, {10, -1}, {100, -1}};
        for (int[] w : second) {
            Check.due("piece(1, " + w[0] + ")", x.piece(1, w[0]), w[1]);
        }
        Check.due("piece(2, 0)", x.piece(2, 0), -1);
        Check.due("piece(-1, 0)", x.piece(-1, 0), -1);
        Check.due("load of more", Check.load(x, "piece day:60 9 10,may 9;"), 3);
        Check.due("piece(2, 0) then", x.piece(2, 0), 60);
        Check.due("load of nothing", x.load(), 3);
        mostOfAll();
    }

    private static void mostOfAll() {
        TownBand x = new TownBand();
        String parts = ",must 9".repeat(9) + ",may 0 or 1 or 2 or 3";
        Check.due("load of ten parts", Check.load(x, "piece a:1 1 1" + parts + ";"), 1);
        Check.due("its parts", x.piece(0, 3), 10);
        Check.due("its must parts", x.piece(0, 4), 511);
        Check.due("its last part's instruments", x.piece(0, 19), 4);
        Check.due("its last part's last", x.piece(0, 193), 3);
        Check.due("behind it", x.piece(0, 194), -1);
        StringBuilder nine = new StringBuilder();
        for (char c = 'b'; c <= 'j'; c++) {
            nine.append("piece ").append(c).append(":1 1 1;");
        }
        Check.due("load of nine more", Check.load(x, nine.toString()), 10);
        Check.due("load of nothing", x.load(), 10);
        Check.fault(x, " piece k:1 1 1;", false, 4, 1);
    }

    private static void blanks() {
        TownBand x = new TownBand();
        Check.due("load", Check.load(x, "\n piece\na :\n1 2 3 , may 1\nor\n2 ; piece b:1 2 3,may1or2or3;\n "), 2);
        Check.due("instruments without blanks", x.piece(1, 10), 3);
        Check.due("load of blanks", Check.load(x, " \n "), 2);
        Check.fault(x, "piece c\t:1 1 1;", false, 1, 7);
        Check.fault(x, "piece c\r:1 1 1;", false, 1, 7);
        Check.fault(x, "piece c:1 1 1;\0", false, 1, 14);
        Check.fault(x, "pi ece c:1 1 1;", false, 1, 0);
        Check.fault(x, "piece c:1 1 1  ", false, 1, 15);
        Check.fault(x, "piece c d:1 1 1;", false, 1, 8);
        Check.fault(x, "piecec:1 1 1;", false, 1, 0);
    }

    private static void faultOfWhatStandsThere() {
        TownBand x = new TownBand();
        String whole = "piece a:10 4 0,must 0 or 1;";
        int[] ends = {5, 7, 8, 10, 12, 14, 15, 19, 21, 24, 26};
        for (int n : ends) {
            Check.fault(x, whole.substring(0, n), false, 1, n);
        }
        Check.fault(x, "Piece a:1 1 1;", false, 1, 0);
        Check.fault(x, "a", false, 1, 0);
        Check.fault(x, ";", false, 1, 0);
        Check.fault(x, "piece abcdefg:1 1 1;", false, 1, 6);
        Check.fault(x, "piece may:1 1 1;", false, 1, 6);
        Check.fault(x, "piece must:1 1 1;", false, 1, 6);
        Check.fault(x, "piece or:1 1 1;", false, 1, 6);
        Check.fault(x, "piece piece:1 1 1;", false, 1, 6);
        Check.fault(x, "piece 1:1 1 1;", false, 1, 6);
        Check.fault(x, "piece a;1 1 1;", false, 1, 7);
        Check.fault(x, "piece a:100 1 1;", false, 1, 8);
        Check.fault(x, "piece a:001 1 1;", false, 1, 8);
        Check.fault(x, "piece a:1,1 1;", false, 1, 9);
        Check.fault(x, "piece a:1 1 b;", false, 1, 12);
        Check.fault(x, "piece a:1 1 1 1;", false, 1, 14);
        Check.fault(x, "piece a:1 1 1 must 1;", false, 1, 14);
        Check.fault(x, "piece a:1 1 1,or 1;", false, 1, 14);
        Check.fault(x, "piece a:1 1 1,;", false, 1, 14);
        Check.fault(x, "piece a:1 1 1,must;", false, 1, 18);
        Check.fault(x, "piece a:1 1 1,may 000;", false, 1, 18);
        Check.fault(x, "piece a:1 1 1,may 0 0;", false, 1, 20);
        Check.fault(x, "piece a:1 1 1,may 0 or;", false, 1, 22);
        Check.fault(x, "piece a:1 1 1,may 0 may 1;", false, 1, 20);
        Check.fault(x, "piece a:1 1 1;;", false, 1, 14);
        Check.fault(x, "piece a:1 1 1.", false, 1, 13);
        Check.fault(x, "piece a:-1 1 1;", false, 1, 8);
    }

    private static void faultOfNames() {
        TownBand x = new TownBand();
        Check.fault(x, "piece ab:1 1 1;piece ab:1 1 1;", false, 2, 21);
        Check.due("load", Check.load(x, "piece ab:1 1 1;piece a:1 1 1;piece b:1 1 1;piece ba:1 1 1;"), 4);
        Check.fault(x, "piece c:1 1 1;piece ba :77 1 1;", false, 2, 20);
        Check.fault(x, "piece ab", false, 2, 6);
        Check.due("load of names that begin alike", Check.load(x, "piece abc:1 1 1;piece zzzzzz:1 1 1;piece zzzzz:1 1 1;"), 7);
        Check.fault(x, "piece zzzzzz:1 1 1;", false, 2, 6);
        TownBand y = new TownBand();
        Check.due("load of names that end alike", Check.load(y, "piece abcdef:1 1 1;piece ebcdef:1 1 1;piece qbcdef:1 1 1;"), 3);
        Check.fault(y, "piece qbcdef:1 1 1;", false, 2, 6);
        Check.due("a name of a text with a fault is free", Check.load(x, "piece c:1 1 1;"), 8);
    }

    private static void faultOfNumbers() {
        TownBand x = new TownBand();
        Check.fault(x, "piece a:0 1 1;", false, 3, 8);
        Check.fault(x, "piece a:00 1 1;", false, 3, 8);
        Check.fault(x, "piece a:61 1 1;", false, 3, 8);
        Check.fault(x, "piece a:60 10 1;", false, 3, 11);
        Check.fault(x, "piece a:60 9 12;", false, 3, 13);
        Check.fault(x, "piece a:60 9 11,may 10;", false, 3, 20);
        Check.fault(x, "piece a:60 9 11,may 9 or 10;", false, 3, 25);
        Check.fault(x, "piece a:60 9 11,may 9 or 09;", false, 3, 25);
        Check.fault(x, "piece a:60 9 11,may 9 or 8 or 7 or 9 or;", false, 3, 35);
        Check.due("the same instrument in two parts", Check.load(x, "piece a:60 9 11,may 9,must 9;"), 1);
    }

    private static void faultOfTooMany() {
        TownBand x = new TownBand();
        Check.fault(x, "piece a:1 1 1,may 0 or 1 or 2 or 3 or 4;", false, 4, 35);
        Check.fault(x, "piece a:1 1 1,may 0 or 1 or 2 or 3 or", false, 4, 35);
        Check.fault(x, "piece a:1 1 1" + ",may 0".repeat(10) + ",x", false, 4, 73);
        StringBuilder eleven = new StringBuilder();
        for (char c = 'a'; c <= 'j'; c++) {
            eleven.append("piece ").append(c).append(":1 1 1;");
        }
        Check.fault(x, eleven + "piece", false, 4, 140);
        Check.fault(x, eleven + "piec", false, 1, 140);
        Check.due("nothing is there", x.count(2), 0);
        Check.due("ten", Check.load(x, eleven.toString()), 10);
        Check.fault(x, "piece a", false, 4, 0);
    }

    private static void faultLeavesLibrary() {
        TownBand x = Check.band(1);
        x.plays(0, 1, 0);
        Check.load(x, "piece a:10 1 1,must 1;");
        x.seat(0);
        Check.fault(x, "piece b:20 1 1,must 2 or 3,may 1;piece a:1 1 1;", false, 2, 39);
        Check.due("count(2)", x.count(2), 1);
        Check.due("piece(1, 0)", x.piece(1, 0), -1);
        Check.due("chair(0, 0)", x.chair(0, 0), 0);
        Check.due("load of another", Check.load(x, "piece c:30 1 1,may 1;"), 2);
        Check.due("its must parts", x.piece(1, 4), 0);
        Check.due("its parts", x.piece(1, 3), 1);
        Check.due("its part's instruments", x.piece(1, 10), 1);
        Check.due("its part's instrument", x.piece(1, 100), 1);
        Check.due("its chair", x.chair(1, 0), -1);
        Check.due("the old chair", x.chair(0, 0), 0);
    }

    private static void whatWasCutIsGone() {
        TownBand x = new TownBand();
        Check.put(x, "piece a:1 1 1;");
        x.end(4);
        Check.due("load of 'piec'", x.load(), -1);
        Check.due("its place", x.fault(1), 0);
        Check.put(x, "piece a   ");
        x.end(7);
        Check.due("load of 'piece a'", x.load(), -1);
        Check.due("its place", x.fault(1), 7);
        Check.put(x, "piece a:1 1 1;piece");
        x.end(14);
        Check.due("load of 'piece a:1 1 1;'", x.load(), 1);
        Check.put(x, "piece b:1 1 12");
        x.end(13);
        Check.due("load of 'piece b:1 1 1'", x.load(), -1);
        Check.due("its fault", x.fault(0), 1);
        Check.due("its place", x.fault(1), 13);
    }

    private static void faultOfLatest() {
        TownBand x = new TownBand();
        Check.fault(x, "x", false, 1, 0);
        Check.due("fault(2)", x.fault(2), -1);
        Check.due("fault(-1)", x.fault(-1), -1);
        x.load();
        Check.due("fault(0) of the latest", x.fault(0), 0);
        Check.due("fault(1) of the latest", x.fault(1), -1);
        Check.fault(x, "1=", true, 1, 2);
        Check.due("a rule", Check.rule(x, "1=1"), 3);
        Check.due("fault(0) of the rule", x.fault(0), 0);
        Check.due("fault(1) of the rule", x.fault(1), -1);
    }
}
