/** The bounds of Terms 3 and of promises 12 to 18, a sentence at a time. */
public final class EdgeSeatingTest {
    private static final int[] NO_PIECE = {-1, 1, 9, 10, Edge.LEAST, Edge.MOST};

    public static void main(String[] args) {
        pieceOfNoneSuch();
        pieceWithoutParts();
        nobodyAtAll();
        tenMustPartsAndTenPlayers();
        tenMustPartsAndNinePlayers();
        lacksOfOnePartEach();
        asManyPlayersAsPartsIsNoLack();
        onlyMustPartsLack();
        onlyThoseHereCount();
        oneWhoPlaysTwoInstrumentsCountsOnce();
        lacksTheFewestPartsThenTheLeastNumber();
        seatingOfNoneAtFirst();
        morePartsAheadOfLessCost();
        lessCostAheadOfFirst();
        partCostIsTheLeastOfItsInstruments();
        firstOfEqualNoneLast();
        earlierPartAheadOfLaterOne();
        earlierPartAheadOfLaterOnesOfSeat();
        fourteenPlayersForTenParts();
        seatForgetsTheOldSeating();
        seatAndAgainStayIfNotPlayable();
        againChangesNoneIfAllCan();
        againLeavesNoneAsNone();
        againWhenOneGoes();
        againMovesAChain();
        againChangesAllTen();
        againMinds0And13();
        againForgetsWhatCostsMore();
        sitEdges();
        sitOfOneWhoHasAPart();
        sitInTwoPieces();
        chairEdges();
        seatingEdges();
        dearestSeating();
        Check.end("EdgeSeatingTest");
    }

    private static void pieceOfNoneSuch() {
        TownBand x = Edge.players(2, 0, 0);
        Check.load(x, "piece a:1 1 1,may 0;");
        x.seat(0);
        for (int k : NO_PIECE) {
            Check.due("playable(" + k + ")", x.playable(k), -1);
            Check.due("lacks(" + k + ")", x.lacks(k), -1);
            Check.due("seat(" + k + ")", x.seat(k), -1);
            Check.due("again(" + k + ")", x.again(k), -1);
            Check.due("chair(" + k + ", 0)", x.chair(k, 0), -1);
            Check.due("sit(" + k + ", 0, 1)", x.sit(k, 0, 1), false);
            Check.due("sit(" + k + ", 0, -1)", x.sit(k, 0, -1), false);
            for (int what = 0; what <= 2; what++) {
                Check.due("seating(" + k + ", " + what + ")", x.seating(k, what), -1);
            }
        }
        Edge.chairs("nothing was done", x, 0, 0);
        lastOfTen();
    }

    private static void lastOfTen() {
        TownBand x = Edge.players(1, 0, 4);
        Check.load(x, Edge.pieces(9) + "piece j:1 1 1,must 0;");
        Check.due("playable(9)", x.playable(9), 1);
        Check.due("lacks(9)", x.lacks(9), 0);
        Check.due("seat(9)", x.seat(9), 1);
        Check.due("again(9)", x.again(9), 0);
        Check.due("chair(9, 0)", x.chair(9, 0), 0);
        Check.due("seating(9, 0)", x.seating(9, 0), 4);
        Check.due("sit(9, 0, -1)", x.sit(9, 0, -1), true);
        Check.due("chair(9, 0) behind it", x.chair(9, 0), -1);
        Check.due("playable(10)", x.playable(10), -1);
        Check.due("sit(10, 0, 0)", x.sit(10, 0, 0), false);
    }

    private static void pieceWithoutParts() {
        for (int n : new int[] {0, 1, 14}) {
            TownBand x = Edge.players(n, 0, 0);
            Check.load(x, "piece a:1 1 1;");
            Check.due("no parts: playable", x.playable(0), 1);
            Check.due("no parts: lacks", x.lacks(0), 0);
            Check.due("no parts: seat", x.seat(0), 0);
            Check.due("no parts: again", x.again(0), 0);
            Check.due("no parts: chair(0, 0)", x.chair(0, 0), -1);
            Check.due("no parts: sit(0, 0, -1)", x.sit(0, 0, -1), false);
            Check.due("no parts: sit(0, 0, 0)", x.sit(0, 0, 0), false);
            for (int what = 0; what <= 2; what++) {
                Check.due("no parts: seating(0, " + what + ")", x.seating(0, what), 0);
            }
        }
    }

    private static void nobodyAtAll() {
        TownBand x = Edge.library("piece a:1 1 1,must 0;piece b:1 1 1,may 0;piece c:1 1 1,may 0,must 1,must 2;");
        int[] playable = {0, 1, 0};
        int[] lacks = {1, 0, 2};
        int[] seat = {-1, 0, -1};
        for (int k = 0; k < 3; k++) {
            Check.due("nobody: playable(" + k + ")", x.playable(k), playable[k]);
            Check.due("nobody: lacks(" + k + ")", x.lacks(k), lacks[k]);
            Check.due("nobody: seat(" + k + ")", x.seat(k), seat[k]);
            Check.due("nobody: again(" + k + ")", x.again(k), seat[k]);
            Check.due("nobody: seating(" + k + ", 1)", x.seating(k, 1), 0);
        }
    }

    private static void tenMustPartsAndTenPlayers() {
        TownBand x = Edge.players(10, 5, 1);
        Check.load(x, "piece a:1 1 1" + ",must 5".repeat(10) + ";");
        Check.due("playable(0)", x.playable(0), 1);
        Check.due("lacks(0)", x.lacks(0), 0);
        Check.due("seat(0)", x.seat(0), 10);
        Edge.chairs("ten for ten", x, 0, 0, 1, 2, 3, 4, 5, 6, 7, 8, 9);
        Check.due("again(0)", x.again(0), 0);
    }

    private static void tenMustPartsAndNinePlayers() {
        TownBand x = Edge.players(9, 5, 1);
        Check.load(x, "piece a:1 1 1" + ",must 5".repeat(10) + ";");
        Check.due("playable(0)", x.playable(0), 0);
        Check.due("lacks(0)", x.lacks(0), 1023);
        Check.due("seat(0)", x.seat(0), -1);
        Check.due("again(0)", x.again(0), -1);
        Check.due("seating(0, 1)", x.seating(0, 1), 0);
    }

    private static void lacksOfOnePartEach() {
        TownBand x = Check.band(10);
        StringBuilder text = new StringBuilder("piece a:1 1 1");
        for (int i = 0; i < 10; i++) {
            x.plays(i, i, i);
            text.append(",must ").append(i);
        }
        Check.load(x, text + ";");
        Check.due("all are here", x.lacks(0), 0);
        for (int p = 0; p < 10; p++) {
            x.here(p, false);
            Check.due("lacks without " + p, x.lacks(0), 1 << p);
            Check.due("playable without " + p, x.playable(0), 0);
            x.here(p, true);
            Check.due("playable with " + p, x.playable(0), 1);
        }
    }

    private static void asManyPlayersAsPartsIsNoLack() {
        for (int n = 1; n <= 5; n++) {
            TownBand x = Edge.players(n, 7, 0);
            Check.load(x, "piece a:1 1 1" + ",must 7".repeat(n) + ";piece b:1 1 1" + ",must 7".repeat(n + 1) + ";");
            Check.due("as many: playable", x.playable(0), 1);
            Check.due("as many: lacks", x.lacks(0), 0);
            Check.due("one more: playable", x.playable(1), 0);
            Check.due("one more: lacks", x.lacks(1), (2 << n) - 1);
        }
    }

    private static void onlyMustPartsLack() {
        TownBand x = Edge.players(1, 0, 0);
        Check.load(x, "piece a:1 1 1,may 9;piece b:1 1 1,may 0,must 0,may 0;piece c:1 1 1,may 9,must 9,may 9,must 9;");
        Check.due("a may part that nobody plays", x.lacks(0), 0);
        Check.due("a must part's player who plays a may part", x.lacks(1), 0);
        Check.due("playable(1)", x.playable(1), 1);
        Check.due("the first must part", x.lacks(2), 2);
        Check.due("playable(2)", x.playable(2), 0);
    }

    private static void onlyThoseHereCount() {
        TownBand x = Edge.players(14, 3, 0);
        Check.load(x, "piece a:1 1 1,must 3;");
        for (int p = 0; p < 13; p++) {
            x.here(p, false);
            Check.due("playable without " + p, x.playable(0), 1);
        }
        Check.due("seat(0) of the last one", x.seat(0), 1);
        Edge.chairs("the last one", x, 0, 13);
        x.here(13, false);
        Check.due("playable of none", x.playable(0), 0);
        Check.due("lacks of none", x.lacks(0), 1);
        x.here(0, true);
        x.plays(0, 3, -1);
        Check.due("playable by one who can't any more", x.playable(0), 0);
    }

    private static void oneWhoPlaysTwoInstrumentsCountsOnce() {
        TownBand x = Check.band(1);
        x.plays(0, 0, 1);
        x.plays(0, 9, 1);
        Check.load(x, "piece a:1 1 1,must 0 or 9,must 9 or 0;piece b:1 1 1,must 0,must 9;piece c:1 1 1,must 5 or 4 or 3 or 9;");
        Check.due("lacks(0)", x.lacks(0), 3);
        Check.due("lacks(1)", x.lacks(1), 3);
        Check.due("the last of four instruments", x.lacks(2), 0);
        Check.due("playable(2)", x.playable(2), 1);
    }

    private static void lacksTheFewestPartsThenTheLeastNumber() {
        TownBand x = Check.band(2);
        x.plays(0, 0, 0);
        x.plays(1, 1, 0);
        Check.load(x, "piece a:1 1 1,must 0,must 0,must 5;piece b:1 1 1,must 0,must 1,must 1,must 0;"
            + "piece c:1 1 1,must 1,must 0,must 0,must 0;piece d:1 1 1,must 5,must 6;piece e:1 1 1,must 0,must 1,must 0 or 1;");
        Check.due("one part ahead of two of a lesser number", x.lacks(0), 4);
        Check.due("6 ahead of 9", x.lacks(1), 6);
        Check.due("6 ahead of 10 and 12", x.lacks(2), 6);
        Check.due("1 ahead of 2", x.lacks(3), 1);
        Check.due("three for two players", x.lacks(4), 7);
    }

    private static void seatingOfNoneAtFirst() {
        TownBand x = Edge.players(14, 0, 0);
        Check.load(x, "piece a:1 1 1" + ",may 0".repeat(10) + ";");
        for (int i = 0; i < 10; i++) {
            Check.due("chair(0, " + i + ") at first", x.chair(0, i), -1);
        }
        for (int what = 0; what <= 2; what++) {
            Check.due("seating(0, " + what + ") at first", x.seating(0, what), 0);
        }
    }

    // Nine parts could be had for nothing, ten for 90 alone.
    private static void morePartsAheadOfLessCost() {
        TownBand x = Check.band(10);
        StringBuilder text = new StringBuilder("piece a:1 1 1");
        for (int p = 0; p < 10; p++) {
            x.plays(p, p, 9);
            if (p < 9) {
                x.plays(p, p + 1, 0);
            }
            text.append(",may ").append(p);
        }
        Check.load(x, text + ";");
        Check.due("seat(0)", x.seat(0), 10);
        Edge.chairs("each their own", x, 0, 0, 1, 2, 3, 4, 5, 6, 7, 8, 9);
        Check.due("COST", x.seating(0, 0), 90);
        x.here(9, false);
        Check.due("seat(0) without 9", x.seat(0), 9);
        Edge.chairs("for nothing", x, 0, -1, 0, 1, 2, 3, 4, 5, 6, 7, 8);
        Check.due("COST without 9", x.seating(0, 0), 0);
    }

    private static void lessCostAheadOfFirst() {
        TownBand x = Edge.players(14, 0, 9);
        x.plays(13, 0, 8);
        Check.load(x, "piece a:1 1 1,must 0;piece b:1 1 1,may 0,may 1;");
        Check.due("seat(0)", x.seat(0), 1);
        Edge.chairs("the cheaper one", x, 0, 13);
        x.plays(12, 0, 8);
        x.seat(0);
        Edge.chairs("the first of the cheaper ones", x, 0, 12);
        for (int p = 0; p < 13; p++) {
            x.here(p, false);
        }
        x.plays(13, 1, 7);
        Check.due("seat(1)", x.seat(1), 1);
        Edge.chairs("the cheaper part", x, 1, -1, 13);
        x.plays(13, 1, 8);
        x.seat(1);
        Edge.chairs("the first of equal parts", x, 1, 13, -1);
    }

    private static void partCostIsTheLeastOfItsInstruments() {
        TownBand x = Check.band(2);
        x.plays(0, 0, 9);
        x.plays(0, 3, 2);
        x.plays(1, 0, 3);
        Check.load(x, "piece a:1 1 1,must 0 or 1 or 2 or 3;");
        x.seat(0);
        Edge.chairs("by the last instrument", x, 0, 0);
        Check.due("COST by the last instrument", x.seating(0, 0), 2);
        x.plays(0, 3, -1);
        Check.due("COST by the one that is left", x.seating(0, 0), 9);
        x.seat(0);
        Edge.chairs("the other one now", x, 0, 1);
        x.plays(0, 2, 0);
        x.seat(0);
        Check.due("COST 0 is less than 3", x.seating(0, 0), 0);
    }

    private static void firstOfEqualNoneLast() {
        TownBand x = Edge.players(3, 0, 5);
        Check.load(x, "piece a:1 1 1" + ",may 0".repeat(5) + ";piece b:1 1 1,may 0,may 0,must 0,must 0;");
        Check.due("seat(0)", x.seat(0), 3);
        Edge.chairs("some ahead of none", x, 0, 0, 1, 2, -1, -1);
        Check.due("seat(1)", x.seat(1), 3);
        Edge.chairs("must parts have theirs", x, 1, 0, -1, 1, 2);
    }

    // 0 alone of those here plays part j, 0 and another one play part i: part i has 0 even if part j has none then.
    private static void earlierPartAheadOfLaterOne() {
        for (int i = 0; i < 10; i++) {
            for (int j = i + 1; j < 10; j++) {
                for (int second : new int[] {1, 13}) {
                    TownBand x = Check.band(14);
                    StringBuilder text = new StringBuilder("piece a:1 1 1");
                    for (int part = 0; part < 10; part++) {
                        text.append(",may ").append(part == i ? 1 : part == j ? 2 : 3);
                    }
                    Check.load(x, text + ";");
                    x.plays(0, 1, 0);
                    x.plays(second, 1, 0);
                    x.plays(0, 2, 0);
                    x.plays(5, 1, 0);
                    x.plays(6, 2, 0);
                    x.sit(0, i, 5);
                    x.sit(0, j, 6);
                    x.here(5, false);
                    x.here(6, false);
                    String call = "parts " + i + " and " + j + ", players 0 and " + second;
                    Check.due(call + ": again(0)", x.again(0), 2);
                    Check.due(call + ": the earlier one", x.chair(0, i), 0);
                    Check.due(call + ": the later one", x.chair(0, j), -1);
                }
            }
        }
    }

    // 12 and 13 play parts i and j, and 13 alone all behind j: of equal seatings 12 is at part i.
    private static void earlierPartAheadOfLaterOnesOfSeat() {
        for (int i = 0; i < 10; i++) {
            for (int j = i + 1; j < 10; j++) {
                TownBand x = Check.band(14);
                StringBuilder text = new StringBuilder("piece a:1 1 1");
                for (int part = 0; part < 10; part++) {
                    text.append(",may ").append(part == i || part == j ? 1 : part > j ? 2 : 3);
                }
                Check.load(x, text + ";");
                x.plays(12, 1, 4);
                x.plays(13, 1, 4);
                x.plays(13, 2, 4);
                String call = "parts " + i + " and " + j;
                Check.due(call + ": seat(0)", x.seat(0), 2);
                Check.due(call + ": the earlier one", x.chair(0, i), 12);
                Check.due(call + ": the later one", x.chair(0, j), 13);
                Check.due(call + ": COST", x.seating(0, 0), 8);
            }
        }
    }

    private static void fourteenPlayersForTenParts() {
        TownBand x = Edge.players(14, 0, 9);
        for (int p = 4; p < 14; p++) {
            x.plays(p, 0, 8);
        }
        Check.load(x, "piece a:1 1 1" + ",may 0".repeat(10) + ";");
        Check.due("seat(0)", x.seat(0), 10);
        Edge.chairs("the last ten", x, 0, 4, 5, 6, 7, 8, 9, 10, 11, 12, 13);
        Check.due("COST", x.seating(0, 0), 80);
        x.here(4, false);
        x.here(13, false);
        x.seat(0);
        Edge.chairs("without two", x, 0, 0, 1, 5, 6, 7, 8, 9, 10, 11, 12);
    }

    private static void seatForgetsTheOldSeating() {
        TownBand x = Edge.players(3, 0, 1);
        Check.load(x, "piece a:1 1 1,may 0,may 0;");
        x.sit(0, 0, 2);
        x.sit(0, 1, 1);
        Check.due("seat(0)", x.seat(0), 2);
        Edge.chairs("anew", x, 0, 0, 1);
    }

    private static void seatAndAgainStayIfNotPlayable() {
        TownBand x = Edge.players(2, 0, 1);
        Check.load(x, "piece a:1 1 1,may 0,must 0;");
        x.sit(0, 0, 1);
        x.sit(0, 1, 0);
        x.here(0, false);
        x.here(1, false);
        Check.due("seat(0)", x.seat(0), -1);
        Edge.chairs("seat stays", x, 0, 1, 0);
        Check.due("again(0)", x.again(0), -1);
        Edge.chairs("again stays", x, 0, 1, 0);
        x.here(1, true);
        Check.due("again(0) with one", x.again(0), 2);
        Edge.chairs("the must part", x, 0, -1, 1);
    }

    private static void againChangesNoneIfAllCan() {
        TownBand x = Edge.players(4, 0, 1);
        Check.load(x, "piece a:1 1 1,may 0,must 0,may 0;");
        x.sit(0, 0, 3);
        x.sit(0, 1, 2);
        Check.due("again(0)", x.again(0), 0);
        Edge.chairs("as they sat", x, 0, 3, 2, -1);
    }

    private static void againLeavesNoneAsNone() {
        TownBand x = Edge.players(4, 0, 1);
        Check.load(x, "piece a:1 1 1,may 0,may 0;piece b:1 1 1,may 0,must 0;");
        Check.due("again(0)", x.again(0), 0);
        Edge.chairs("none is left", x, 0, -1, -1);
        Check.due("again(1)", x.again(1), 1);
        Edge.chairs("the must part alone", x, 1, -1, 0);
    }

    private static void againWhenOneGoes() {
        TownBand x = Edge.players(3, 0, 1);
        Check.load(x, "piece a:1 1 1,may 0,may 0,may 1;");
        x.sit(0, 0, 2);
        x.sit(0, 1, 1);
        x.here(2, false);
        Check.due("again(0) with another there", x.again(0), 1);
        Edge.chairs("some ahead of none", x, 0, 0, 1, -1);
        x.here(0, false);
        Check.due("again(0) with nobody else", x.again(0), 1);
        Edge.chairs("none", x, 0, -1, 1, -1);
        x.plays(1, 0, -1);
        Check.due("again(0) of one who can't any more", x.again(0), 1);
        Edge.chairs("nobody", x, 0, -1, -1, -1);
        Check.due("again(0) of nobody", x.again(0), 0);
    }

    // 0 goes; only 1 can have its part, only 2 that of 1, only 3 that of 2.
    private static void againMovesAChain() {
        TownBand x = Check.band(4);
        for (int i = 0; i < 3; i++) {
            x.plays(i, i, 0);
            x.plays(i + 1, i, 9);
        }
        Check.load(x, "piece a:1 1 1,must 0,must 1,must 2;");
        Check.due("seat(0)", x.seat(0), 3);
        Edge.chairs("seat", x, 0, 0, 1, 2);
        x.here(0, false);
        Check.due("again(0)", x.again(0), 3);
        Edge.chairs("the chain", x, 0, 1, 2, 3);
        x.here(0, true);
        Check.due("again(0) when 0 is back", x.again(0), 0);
        x.here(2, false);
        Check.due("again(0) without 2", x.again(0), 2);
        Edge.chairs("the chain's begin", x, 0, 0, 1, 3);
    }

    private static void againChangesAllTen() {
        TownBand x = Edge.players(14, 0, 2);
        Check.load(x, "piece a:1 1 1" + ",may 0".repeat(10) + ";piece b:1 1 1" + ",must 0".repeat(10) + ";");
        Check.due("seat(0)", x.seat(0), 10);
        Check.due("again(1) from none", x.again(1), 10);
        Edge.chairs("from none", x, 1, 0, 1, 2, 3, 4, 5, 6, 7, 8, 9);
        for (int p = 0; p < 14; p++) {
            x.here(p, false);
        }
        Check.due("again(0) to none", x.again(0), 10);
        Edge.chairs("to none", x, 0, -1, -1, -1, -1, -1, -1, -1, -1, -1, -1);
        Check.due("again(1), not playable", x.again(1), -1);
        Check.due("it stays", x.seating(1, 1), 10);
    }

    private static void againMinds0And13() {
        TownBand x = Edge.players(14, 0, 2);
        Check.load(x, "piece a:1 1 1" + ",must 0".repeat(10) + ";");
        for (int i = 0; i < 10; i++) {
            x.sit(0, i, 13 - i);
        }
        Check.due("again(0) with all", x.again(0), 0);
        x.here(13, false);
        x.here(4, false);
        Check.due("again(0) without 13 and 4", x.again(0), 2);
        Edge.chairs("0 and 1 come", x, 0, 0, 12, 11, 10, 9, 8, 7, 6, 5, 1);
        x.here(13, true);
        x.here(0, false);
        Check.due("again(0) without 0", x.again(0), 1);
        Edge.chairs("2 is the first", x, 0, 2, 12, 11, 10, 9, 8, 7, 6, 5, 1);
    }

    private static void againForgetsWhatCostsMore() {
        TownBand x = Check.band(3);
        x.plays(0, 0, 0);
        x.plays(1, 0, 9);
        x.plays(2, 0, 0);
        Check.load(x, "piece a:1 1 1,must 0;");
        x.seat(0);
        x.here(0, false);
        Check.due("again(0)", x.again(0), 1);
        Edge.chairs("the first, whatever it costs", x, 0, 1);
        Check.due("COST", x.seating(0, 0), 9);
    }

    private static void sitEdges() {
        TownBand x = Edge.players(3, 0, 1);
        x.plays(2, 0, -1);
        x.here(1, false);
        Check.load(x, "piece a:1 1 1,may 0,must 0;");
        for (int i : new int[] {-1, 2, 10, Edge.LEAST, Edge.MOST}) {
            Check.due("sit(0, " + i + ", 0)", x.sit(0, i, 0), false);
            Check.due("sit(0, " + i + ", -1)", x.sit(0, i, -1), false);
        }
        for (int p : new int[] {-2, 2, 3, 14, Edge.LEAST, Edge.MOST}) {
            Check.due("sit(0, 0, " + p + ")", x.sit(0, 0, p), false);
        }
        Edge.chairs("nothing was done", x, 0, -1, -1);
        Check.due("sit(0, 0, 0)", x.sit(0, 0, 0), true);
        Check.due("sit(0, 1, 1), not here", x.sit(0, 1, 1), true);
        Edge.chairs("both sit", x, 0, 0, 1);
        for (int p : new int[] {-2, 2, 3, Edge.LEAST, Edge.MOST}) {
            Check.due("sit(0, 0, " + p + ")", x.sit(0, 0, p), false);
        }
        Edge.chairs("both still sit", x, 0, 0, 1);
        Check.due("sit(0, 1, -1)", x.sit(0, 1, -1), true);
        Check.due("sit(0, 1, -1) of none", x.sit(0, 1, -1), true);
        Edge.chairs("one sits", x, 0, 0, -1);
    }

    private static void sitOfOneWhoHasAPart() {
        TownBand x = Edge.players(2, 0, 1);
        Check.load(x, "piece a:1 1 1" + ",may 0".repeat(10) + ";");
        Check.due("sit(0, 9, 0)", x.sit(0, 9, 0), true);
        Check.due("sit(0, 9, 0) once more", x.sit(0, 9, 0), true);
        Check.due("sit(0, 0, 0)", x.sit(0, 0, 0), false);
        Check.due("chair(0, 0)", x.chair(0, 0), -1);
        Check.due("sit(0, 9, 1) in their place", x.sit(0, 9, 1), true);
        Check.due("sit(0, 0, 0) now", x.sit(0, 0, 0), true);
        Check.due("sit(0, 9, 0)", x.sit(0, 9, 0), false);
        Check.due("chair(0, 9)", x.chair(0, 9), 1);
        Check.due("chair(0, 0)", x.chair(0, 0), 0);
    }

    private static void sitInTwoPieces() {
        TownBand x = Edge.players(1, 0, 1);
        Check.load(x, "piece a:1 1 1,may 0;piece b:1 1 1,may 0;");
        Check.due("sit(0, 0, 0)", x.sit(0, 0, 0), true);
        Check.due("chair(1, 0)", x.chair(1, 0), -1);
        Check.due("sit(1, 0, 0)", x.sit(1, 0, 0), true);
        Check.due("sit(0, 0, -1)", x.sit(0, 0, -1), true);
        Check.due("chair(1, 0) of the other", x.chair(1, 0), 0);
    }

    private static void chairEdges() {
        TownBand x = Edge.players(14, 0, 1);
        Check.load(x, "piece a:1 1 1,may 0,may 0;piece b:1 1 1" + ",may 0".repeat(10) + ";");
        x.seat(0);
        x.seat(1);
        for (int i : new int[] {-1, 2, 9, 10, Edge.LEAST, Edge.MOST}) {
            Check.due("chair(0, " + i + ")", x.chair(0, i), -1);
        }
        Check.due("chair(0, 0)", x.chair(0, 0), 0);
        Check.due("chair(0, 1)", x.chair(0, 1), 1);
        Check.due("chair(1, 9)", x.chair(1, 9), 9);
        Check.due("chair(1, 10)", x.chair(1, 10), -1);
    }

    private static void seatingEdges() {
        TownBand x = Edge.players(2, 0, 3);
        Check.load(x, "piece a:1 1 1,may 0,may 0;");
        x.sit(0, 1, 1);
        x.here(1, false);
        int[] want = {3, 1, 1};
        for (int what = 0; what <= 2; what++) {
            Check.due("seating(0, " + what + ")", x.seating(0, what), want[what]);
        }
        for (int wrong : new int[] {-1, 3, Edge.LEAST, Edge.MOST}) {
            Check.due("seating(0, " + wrong + ")", x.seating(0, wrong), -1);
        }
    }

    private static void dearestSeating() {
        TownBand x = Edge.players(14, 9, 9);
        Check.load(x, "piece a:1 1 1" + ",must 9".repeat(10) + ";");
        for (int i = 0; i < 10; i++) {
            Check.due("sit(0, " + i + ")", x.sit(0, i, 13 - i), true);
            Check.due("COST with " + i, x.seating(0, 0), 9 * (i + 1));
            Check.due("seated with " + i, x.seating(0, 1), i + 1);
            x.here(13 - i, false);
            Check.due("not here with " + i, x.seating(0, 2), i + 1);
        }
    }
}
