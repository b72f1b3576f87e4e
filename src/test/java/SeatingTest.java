/** Promises 12 to 18: playable, lacks, seat, again, chair, sit, seating. */
public final class SeatingTest {
    public static void main(String[] args) {
        noSuchPiece();
        emptyPiece();
        playableAndLacks();
        leastLack();
        seatPrefersMorePartsThanCheapOnes();
        seatIsFirstOfEqual();
        mustAheadOfMay();
        againChangesFewest();
        againIsFirstOfEqual();
        againFromNothing();
        sitting();
        seatingFigures();
        lostInstrument();
        fullBand();
        lastPlayerAlone();
        greatLacks();
        allGone();
        Check.end("SeatingTest");
    }

    private static void chairs(String call, TownBand x, int k, int... want) {
        for (int i = 0; i < want.length; i++) {
            Check.due(call + ": chair(" + k + ", " + i + ")", x.chair(k, i), want[i]);
        }
    }

    private static void noSuchPiece() {
        TownBand x = Check.band(1);
        Check.load(x, "piece a:1 1 1,may 0;");
        for (int k : new int[] {-1, 1, 10, Integer.MAX_VALUE, Integer.MIN_VALUE}) {
            Check.due("playable(" + k + ")", x.playable(k), -1);
            Check.due("lacks(" + k + ")", x.lacks(k), -1);
            Check.due("seat(" + k + ")", x.seat(k), -1);
            Check.due("again(" + k + ")", x.again(k), -1);
            Check.due("chair(" + k + ", 0)", x.chair(k, 0), -1);
            Check.due("sit(" + k + ", 0, -1)", x.sit(k, 0, -1), false);
            Check.due("seating(" + k + ", 0)", x.seating(k, 0), -1);
        }
    }

    private static void emptyPiece() {
        TownBand x = new TownBand();
        Check.load(x, "piece a:1 1 1;piece b:1 1 1,may 0;");
        for (int k = 0; k < 2; k++) {
            Check.due("playable(" + k + ")", x.playable(k), 1);
            Check.due("lacks(" + k + ")", x.lacks(k), 0);
            Check.due("seat(" + k + ")", x.seat(k), 0);
            Check.due("again(" + k + ")", x.again(k), 0);
            Check.due("chair(" + k + ", 0)", x.chair(k, 0), -1);
            for (int what = 0; what < 3; what++) {
                Check.due("seating(" + k + ", " + what + ")", x.seating(k, what), 0);
            }
        }
    }

    private static void playableAndLacks() {
        TownBand x = Check.band(3);
        x.plays(0, 0, 1);
        x.plays(1, 0, 1);
        x.plays(1, 1, 1);
        x.plays(2, 2, 1);
        Check.load(x, "piece a:1 1 1,must 0,must 1,must 2;piece b:1 1 1,must 0 or 1,must 0,must 1;piece c:1 1 1,may 3,must 3;");
        Check.due("playable(0)", x.playable(0), 1);
        Check.due("lacks(0)", x.lacks(0), 0);
        Check.due("playable(1)", x.playable(1), 0);
        Check.due("lacks(1)", x.lacks(1), 7);
        Check.due("playable(2)", x.playable(2), 0);
        Check.due("lacks(2)", x.lacks(2), 2);
        x.here(1, false);
        Check.due("playable(0) without 1", x.playable(0), 0);
        Check.due("lacks(0) without 1", x.lacks(0), 2);
        x.here(2, false);
        Check.due("lacks(0) without 1 and 2", x.lacks(0), 2);
        x.plays(0, 1, 0);
        Check.due("lacks(0) when 0 plays 1 too", x.lacks(0), 4);
        x.here(2, true);
        Check.due("lacks(0) of two for one player", x.lacks(0), 3);
    }

    private static void leastLack() {
        TownBand x = Check.band(4);
        for (int p = 0; p < 3; p++) {
            x.plays(p, 5, 0);
        }
        x.plays(3, 6, 0);
        Check.load(x, "piece a:1 1 1,must 5,must 5,must 5,must 5,may 6,must 6,must 6;");
        Check.due("the fewer parts, of a greater number", x.lacks(0), 96);
        x.plays(2, 6, 0);
        Check.due("playable(0)", x.playable(0), 0);
        Check.due("four of the first sort", x.lacks(0), 15);
        Check.load(x, "piece b:1 1 1,must 7,may 7,must 7 or 6,must 7;");
        Check.due("single ones, the least", x.lacks(1), 1);
    }

    private static void seatPrefersMorePartsThanCheapOnes() {
        TownBand x = Check.band(2);
        x.plays(0, 0, 0);
        x.plays(0, 1, 9);
        x.plays(1, 0, 9);
        Check.load(x, "piece a:1 1 1,must 0,may 1;");
        Check.due("seat(0)", x.seat(0), 2);
        chairs("dear but full", x, 0, 1, 0);
        Check.due("seating(0, 0)", x.seating(0, 0), 18);
        x.plays(1, 1, 8);
        Check.due("seat(0) cheaper", x.seat(0), 2);
        chairs("cheaper", x, 0, 0, 1);
        Check.due("seating(0, 0) cheaper", x.seating(0, 0), 8);
    }

    private static void seatIsFirstOfEqual() {
        TownBand x = Check.band(4);
        for (int p = 0; p < 4; p++) {
            x.plays(p, 0, 3);
            x.plays(p, 1, 3);
        }
        Check.load(x, "piece a:1 1 1,may 0,must 1,may 2,may 1;");
        Check.due("seat(0)", x.seat(0), 3);
        chairs("all the same", x, 0, 0, 1, -1, 2);
        x.here(0, false);
        Check.due("seat(0) without 0", x.seat(0), 3);
        chairs("without 0", x, 0, 1, 2, -1, 3);
        x.here(1, false);
        x.here(2, false);
        Check.due("seat(0) with 3 alone", x.seat(0), 1);
        chairs("with 3 alone", x, 0, -1, 3, -1, -1);
    }

    private static void mustAheadOfMay() {
        TownBand x = Check.band(2);
        x.plays(0, 0, 0);
        x.plays(0, 1, 9);
        x.plays(1, 2, 4);
        Check.load(x, "piece a:1 1 1,may 0,must 1,may 2 or 0;");
        Check.due("seat(0)", x.seat(0), 2);
        chairs("must ahead of may", x, 0, -1, 0, 1);
        Check.due("seating(0, 0)", x.seating(0, 0), 13);
        x.here(0, false);
        Check.due("seat(0), not playable", x.seat(0), -1);
        Check.due("again(0), not playable", x.again(0), -1);
        chairs("it stays", x, 0, -1, 0, 1);
    }

    private static void againChangesFewest() {
        TownBand x = Check.band(4);
        x.plays(0, 0, 0);
        x.plays(1, 1, 0);
        x.plays(2, 2, 0);
        x.plays(3, 2, 9);
        x.plays(2, 1, 0);
        x.plays(1, 0, 0);
        x.plays(3, 0, 9);
        Check.load(x, "piece a:1 1 1,must 0,must 1,must 2;");
        Check.due("seat(0)", x.seat(0), 3);
        chairs("seat", x, 0, 0, 1, 2);
        Check.due("again(0) with all", x.again(0), 0);
        x.here(0, false);
        Check.due("again(0) without 0", x.again(0), 1);
        chairs("one chair changed, whatever it costs", x, 0, 3, 1, 2);
        x.here(0, true);
        x.here(3, false);
        x.here(0, false);
        Check.due("again(0) without 0 and 3", x.again(0), -1);
        chairs("it stays", x, 0, 3, 1, 2);
        x.here(0, true);
        x.plays(3, 0, -1);
        x.here(3, true);
        Check.due("again(0) when 3 lost the part", x.again(0), 1);
        chairs("3 can't", x, 0, 0, 1, 2);
    }

    private static void againIsFirstOfEqual() {
        TownBand x = Check.band(4);
        for (int p = 0; p < 4; p++) {
            x.plays(p, 0, 9 - p);
        }
        Check.load(x, "piece a:1 1 1,may 0,must 0,may 0;");
        x.sit(0, 0, 3);
        x.sit(0, 1, 2);
        x.here(3, false);
        Check.due("again(0)", x.again(0), 1);
        chairs("some is ahead of none, none stays none", x, 0, 0, 2, -1);
        x.here(0, false);
        x.here(2, false);
        Check.due("again(0) with 1 alone", x.again(0), 2);
        chairs("the must part alone", x, 0, -1, 1, -1);
        x.here(1, false);
        x.here(0, true);
        x.sit(0, 0, 0);
        Check.due("again(0) moves 0 to the must part", x.again(0), 2);
        chairs("moved", x, 0, -1, 0, -1);
    }

    private static void againFromNothing() {
        TownBand x = Check.band(3);
        for (int p = 0; p < 3; p++) {
            x.plays(p, 0, 9 - p);
        }
        Check.load(x, "piece a:1 1 1,may 0,must 0,may 0,must 0;");
        Check.due("again(0)", x.again(0), 2);
        chairs("must parts alone, the first players", x, 0, -1, 0, -1, 1);
    }

    private static void sitting() {
        TownBand x = Check.band(2);
        x.plays(0, 0, 1);
        x.plays(1, 1, 1);
        x.here(1, false);
        Check.load(x, "piece a:1 1 1,must 0,may 0 or 1;piece b:1 1 1,may 1;");
        Check.due("sit(0, 0, 1)", x.sit(0, 0, 1), false);
        Check.due("sit(0, 0, 2)", x.sit(0, 0, 2), false);
        Check.due("sit(0, 0, -2)", x.sit(0, 0, -2), false);
        Check.due("sit(0, 2, 0)", x.sit(0, 2, 0), false);
        Check.due("sit(0, -1, 0)", x.sit(0, -1, 0), false);
        Check.due("sit(0, 2, -1)", x.sit(0, 2, -1), false);
        chairs("nothing was done", x, 0, -1, -1);
        Check.due("sit(0, 1, 1), not here", x.sit(0, 1, 1), true);
        Check.due("sit(1, 0, 1), another piece", x.sit(1, 0, 1), true);
        Check.due("sit(0, 1, 1) again", x.sit(0, 1, 1), true);
        Check.due("sit(0, 1, 0) instead", x.sit(0, 1, 0), true);
        Check.due("sit(0, 0, 0) has another", x.sit(0, 0, 0), false);
        chairs("it stays", x, 0, -1, 0);
        Check.due("sit(0, 1, -1)", x.sit(0, 1, -1), true);
        Check.due("sit(0, 0, 0)", x.sit(0, 0, 0), true);
        chairs("moved by hand", x, 0, 0, -1);
        chairs("the other piece", x, 1, 1);
        Check.due("chair(0, 2)", x.chair(0, 2), -1);
        Check.due("chair(0, -1)", x.chair(0, -1), -1);
    }

    private static void seatingFigures() {
        TownBand x = Check.band(3);
        x.plays(0, 0, 5);
        x.plays(0, 1, 2);
        x.plays(1, 1, 7);
        Check.load(x, "piece a:1 1 1,must 0 or 1,may 1,may 2;");
        x.sit(0, 0, 0);
        x.sit(0, 1, 1);
        Check.due("seating(0, 0)", x.seating(0, 0), 9);
        Check.due("seating(0, 1)", x.seating(0, 1), 2);
        Check.due("seating(0, 2)", x.seating(0, 2), 0);
        Check.due("seating(0, 3)", x.seating(0, 3), -1);
        Check.due("seating(0, -1)", x.seating(0, -1), -1);
        x.here(0, false);
        x.here(2, false);
        Check.due("seating(0, 2) without 0", x.seating(0, 2), 1);
        Check.due("seating(0, 1) stays", x.seating(0, 1), 2);
        x.plays(0, 1, 9);
        Check.due("seating(0, 0) by the costs of now", x.seating(0, 0), 12);
    }

    private static void lostInstrument() {
        TownBand x = Check.band(2);
        x.plays(0, 0, 5);
        x.plays(1, 1, 7);
        Check.load(x, "piece a:1 1 1,may 0,may 1;");
        x.seat(0);
        x.plays(0, 0, -1);
        chairs("seatings stay", x, 0, 0, 1);
        Check.due("seating(0, 0) of those who can", x.seating(0, 0), 7);
        Check.due("again(0)", x.again(0), 1);
        chairs("who can't goes", x, 0, -1, 1);
    }

    private static void lastPlayerAlone() {
        TownBand x = Check.band(14);
        x.plays(13, 9, 0);
        Check.load(x, "piece a:1 1 1,may 8,must 9;");
        Check.due("playable(0) by the last one", x.playable(0), 1);
        Check.due("lacks(0) by the last one", x.lacks(0), 0);
        Check.due("seat(0) of the last one", x.seat(0), 1);
        chairs("the last one", x, 0, -1, 13);
    }

    private static void greatLacks() {
        TownBand x = Check.band(9);
        for (int p = 0; p < 9; p++) {
            x.plays(p, 0, 0);
        }
        Check.load(x, "piece a:1 1 1" + ",must 0".repeat(10) + ";piece b:1 1 1,may 0" + ",must 0".repeat(9) + ";");
        Check.due("lacks of ten", x.lacks(0), 1023);
        Check.due("lacks of none", x.lacks(1), 0);
        x.here(4, false);
        Check.due("lacks of the first nine", x.lacks(0), 511);
        Check.due("lacks of nine", x.lacks(1), 1022);
    }

    private static void allGone() {
        TownBand x = Check.band(2);
        x.plays(0, 0, 0);
        x.plays(1, 1, 0);
        Check.load(x, "piece a:1 1 1,may 0,may 1;piece b:1 1 1,may 0,may 1;");
        x.seat(0);
        x.seat(1);
        x.here(0, false);
        x.here(1, false);
        Check.due("again(0) of none", x.again(0), 2);
        Check.due("seat(1) of none", x.seat(1), 0);
        chairs("all are gone", x, 0, -1, -1);
        chairs("all are gone", x, 1, -1, -1);
    }

    private static void fullBand() {
        TownBand x = Check.band(14);
        for (int p = 0; p < 14; p++) {
            for (int i = 0; i < 10; i++) {
                x.plays(p, i, p);
            }
        }
        for (int p = 0; p < 14; p++) {
            for (int i = 0; i < 10; i++) {
                x.plays(p, i, p < 4 ? 9 : 0);
            }
        }
        StringBuilder text = new StringBuilder("piece a:1 1 1");
        for (int i = 0; i < 10; i++) {
            text.append(i % 2 == 0 ? ",must " : ",may ").append(i);
        }
        Check.load(x, text.append(";").toString());
        Check.due("seat(0)", x.seat(0), 10);
        chairs("the ten cheap ones in order", x, 0, 4, 5, 6, 7, 8, 9, 10, 11, 12, 13);
        x.here(13, false);
        x.here(4, false);
        Check.due("again(0)", x.again(0), 2);
        chairs("two chairs", x, 0, 0, 5, 6, 7, 8, 9, 10, 11, 12, 1);
    }
}
