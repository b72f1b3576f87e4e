/** The bounds of Terms 1 and of promises 1 to 5, 25 and 27, a sentence at a time. */
public final class EdgePlayersTest {
    public static void main(String[] args) {
        newObjectHasNobodyAndNothing();
        ageFrom0To99();
        joinedFrom0To999();
        fourteenPlayersAtMost();
        refusedComersTakeNoNumber();
        noPlayer();
        instrumentsFrom0To9();
        costFrom0To9OrCant();
        atFirstNoneIsPlayed();
        costOfNoneSuch();
        numbersThatWrapAround();
        atFirstNotHere();
        hereOfNoneSuch();
        seatingsStayWhoeverGoes();
        contestsAreCounted();
        thousandContestsAtMost();
        countOfEachAndOfAnotherWhat();
        Check.end("EdgePlayersTest");
    }

    private static void newObjectHasNobodyAndNothing() {
        TownBand x = new TownBand();
        for (int what = 0; what <= 5; what++) {
            Check.due("new: count(" + what + ")", x.count(what), 0);
        }
        Check.due("new: an empty tape, end(0)", x.end(0), 0);
        Check.due("new: an empty tape, end(1)", x.end(1), -1);
        Check.due("new: fault(0)", x.fault(0), 0);
        Check.due("new: fault(1)", x.fault(1), -1);
        Check.due("new: plan(0)", x.plan(0), -1);
        Check.due("new: strain()", x.strain(), 0);
        Check.due("new: piece(0, 0)", x.piece(0, 0), -1);
        Check.due("new: where(29, 999, 0)", x.where(29, 999, 0), -1);
        Check.due("new: where by a word", x.where(29, 999, 1), -3);
        Check.due("new: copies on the shelf", x.copies(-1, 0, 0), 30);
        Check.due("new: copies lost", x.copies(-2, 0, 0), 0);
        Check.due("new: the first player", x.player(0, 0), 0);
        Check.due("new: no rule, all may", x.may(0, 0), 1);
        Check.due("new: the first feed", x.feed(0, 0, 0, 0, 0), 20);
        Check.due("new: the first word", x.tell(0, 0, 0), 0);
        Check.due("new: the first contest", x.contest(0), 1);
    }

    private static void ageFrom0To99() {
        TownBand x = new TownBand();
        Check.due("age -1", x.player(-1, 5), -1);
        Check.due("age 0", x.player(0, 5), 0);
        Check.due("age 100", x.player(100, 5), -1);
        Check.due("age 99", x.player(99, 5), 1);
        Check.due("the least age", x.player(Edge.LEAST, 5), -1);
        Check.due("the greatest age", x.player(Edge.MOST, 5), -1);
        Check.due("two came", x.count(0), 2);
        Check.rule(x, "age=0");
        Check.due("age of 0", x.may(0, 5), 1);
        Check.due("age of 1", x.may(1, 5), 0);
        Check.rule(x, "age=99");
        Check.due("age of 0", x.may(0, 5), 0);
        Check.due("age of 1", x.may(1, 5), 1);
    }

    private static void joinedFrom0To999() {
        TownBand x = new TownBand();
        Check.due("joined -1", x.player(5, -1), -1);
        Check.due("joined 0", x.player(5, 0), 0);
        Check.due("joined 1000", x.player(5, 1000), -1);
        Check.due("joined 999", x.player(5, 999), 1);
        Check.due("the least day", x.player(5, Edge.LEAST), -1);
        Check.due("the greatest day", x.player(5, Edge.MOST), -1);
        Check.due("two came", x.count(0), 2);
        Check.rule(x, "days=0");
        Check.due("joined of 0", x.may(0, 0), 1);
        Check.due("joined of 0", x.may(0, 1), 0);
        Check.due("joined of 1", x.may(1, 999), 1);
        Check.due("joined of 1", x.may(1, 998), 0);
    }

    private static void fourteenPlayersAtMost() {
        TownBand x = new TownBand();
        for (int p = 0; p < 13; p++) {
            Check.due("player " + p, x.player(p, p), p);
        }
        Check.due("13 not yet: plays", x.plays(13, 0, 0), false);
        Check.due("13 not yet: here", x.here(13, true), false);
        Check.due("13 not yet: contest", x.contest(13), -1);
        Check.due("13 not yet: may", x.may(13, 0), -1);
        Check.due("13 not yet: tell", x.tell(0, 0, 13), -1);
        Check.due("13 not yet: copies", x.copies(13, 0, 0), -1);
        Check.due("the 14th", x.player(13, 13), 13);
        Check.due("the 15th", x.player(14, 14), -1);
        Check.due("the 15th once more", x.player(14, 14), -1);
        Check.due("count(0)", x.count(0), 14);
        Check.due("13: plays", x.plays(13, 0, 0), true);
        Check.due("13: here", x.here(13, true), true);
        Check.due("13: contest", x.contest(13), 1);
        Check.due("13: may", x.may(13, 0), 1);
        Check.due("13: tell", x.tell(0, 0, 13), 0);
        Check.due("13: copies", x.copies(13, 0, 1), 1);
        Check.due("14: plays", x.plays(14, 0, 0), false);
        Check.due("14: cost", x.cost(14, 0), -1);
        Check.due("14: here", x.here(14, true), false);
        Check.due("14: contest", x.contest(14), -1);
        Check.due("14: may", x.may(14, 0), -1);
        Check.due("14: tell", x.tell(0, 0, 14), -1);
        Check.due("14: copies", x.copies(14, 0, 1), -1);
        Check.due("count(1)", x.count(1), 1);
        Check.rule(x, "age+days=13");
        Check.due("the 14th as told", x.may(13, 13), 1);
        Check.due("the 13th as told", x.may(12, 13), 1);
        Check.due("the 13th on another day", x.may(12, 12), 0);
    }

    private static void refusedComersTakeNoNumber() {
        TownBand x = new TownBand();
        x.player(100, 0);
        x.player(0, 1000);
        Check.due("the first behind refused ones", x.player(1, 1), 0);
        x.player(-1, 0);
        x.player(0, -1);
        Check.due("the second behind refused ones", x.player(2, 2), 1);
        Check.due("count(0)", x.count(0), 2);
    }

    private static void noPlayer() {
        TownBand x = Edge.library("piece a:1 1 1,may 0;");
        Check.due("nobody: plays", x.plays(0, 0, 0), false);
        Check.due("nobody: cost", x.cost(0, 0), -1);
        Check.due("nobody: here", x.here(0, true), false);
        Check.due("nobody: here", x.here(0, false), false);
        Check.due("nobody: contest", x.contest(0), -1);
        Check.due("nobody: may", x.may(0, 0), -1);
        Check.due("nobody: sit", x.sit(0, 0, 0), false);
        Check.due("nobody: tell", x.tell(0, 0, 0), -1);
        Check.due("nobody: copies", x.copies(0, 0, 0), -1);
        x.player(5, 5);
        Check.due("a comer plays nothing of before", x.cost(0, 0), -1);
        Check.due("a comer is not here", x.count(1), 0);
        Check.due("a comer was in no contest", x.contest(0), 1);
    }

    private static void instrumentsFrom0To9() {
        TownBand x = Check.band(3);
        Check.due("plays(1, -1, 4)", x.plays(1, -1, 4), false);
        Check.due("plays(1, 0, 4)", x.plays(1, 0, 4), true);
        Check.due("plays(1, 9, 5)", x.plays(1, 9, 5), true);
        Check.due("plays(1, 10, 6)", x.plays(1, 10, 6), false);
        Check.due("plays(1, least, 6)", x.plays(1, Edge.LEAST, 6), false);
        Check.due("plays(1, most, 6)", x.plays(1, Edge.MOST, 6), false);
        int[] want = {4, -1, -1, -1, -1, -1, -1, -1, -1, 5};
        for (int i = 0; i < 10; i++) {
            Check.due("cost(1, " + i + ")", x.cost(1, i), want[i]);
            Check.due("cost(0, " + i + ")", x.cost(0, i), -1);
            Check.due("cost(2, " + i + ")", x.cost(2, i), -1);
        }
    }

    private static void costFrom0To9OrCant() {
        TownBand x = Check.band(1);
        Check.due("plays at 0", x.plays(0, 3, 0), true);
        Check.due("cost 0", x.cost(0, 3), 0);
        Check.due("plays at 9", x.plays(0, 3, 9), true);
        Check.due("cost 9", x.cost(0, 3), 9);
        for (int wrong : new int[] {10, -2, Edge.LEAST, Edge.MOST}) {
            Check.due("plays at " + wrong, x.plays(0, 3, wrong), false);
            Check.due("cost behind " + wrong, x.cost(0, 3), 9);
        }
        Check.due("plays at -1", x.plays(0, 3, -1), true);
        Check.due("cost of can't", x.cost(0, 3), -1);
        Check.due("plays at -1 who can't", x.plays(0, 3, -1), true);
        Check.due("plays at -2 who can't", x.plays(0, 3, -2), false);
        Check.due("cost of can't still", x.cost(0, 3), -1);
    }

    private static void atFirstNoneIsPlayed() {
        TownBand x = Check.band(14);
        for (int p = 0; p < 14; p++) {
            for (int i = 0; i < 10; i++) {
                Check.due("cost(" + p + ", " + i + ") at first", x.cost(p, i), -1);
            }
        }
    }

    private static void costOfNoneSuch() {
        TownBand x = Check.band(2);
        for (int i = 0; i < 10; i++) {
            x.plays(0, i, 7);
            x.plays(1, i, 7);
        }
        int[][] wrong = {{-1, 0}, {2, 0}, {0, -1}, {1, -1}, {0, 10}, {1, 10}, {-1, 10}, {Edge.LEAST, 0}, {Edge.MOST, 0},
            {0, Edge.LEAST}, {0, Edge.MOST}};
        for (int[] w : wrong) {
            Check.due("cost(" + w[0] + ", " + w[1] + ")", x.cost(w[0], w[1]), -1);
        }
        Check.due("cost(0, 0)", x.cost(0, 0), 7);
        Check.due("cost(1, 9)", x.cost(1, 9), 7);
    }

    // Numbers that would meet an instrument or a bit of another one if they were multiplied or shifted unseen.
    private static void numbersThatWrapAround() {
        TownBand x = Check.band(2);
        int tenfoldIs4 = 429496730;
        Check.due("plays of a far one", x.plays(tenfoldIs4, 0, 1), false);
        Check.due("cost of a far one", x.cost(tenfoldIs4, 0), -1);
        Check.due("cost(0, 4)", x.cost(0, 4), -1);
        x.here(0, false);
        Check.due("here(32, true)", x.here(32, true), false);
        Check.due("here(-32, true)", x.here(-32, true), false);
        Check.due("here(33, false)", x.here(33, false), false);
        Check.due("count(1)", x.count(1), 1);
        Check.due("contest(32)", x.contest(32), -1);
        Check.due("contest(0)", x.contest(0), 1);
    }

    private static void atFirstNotHere() {
        TownBand x = new TownBand();
        for (int p = 0; p < 14; p++) {
            x.player(20, 0);
            Check.due("count(1) behind comer " + p, x.count(1), 0);
        }
        for (int p = 0; p < 14; p++) {
            Check.due("here(" + p + ", true)", x.here(p, true), true);
            Check.due("count(1) with " + p, x.count(1), p + 1);
        }
        for (int p = 13; p >= 0; p--) {
            Check.due("here(" + p + ", false)", x.here(p, false), true);
            Check.due("here(" + p + ", false) again", x.here(p, false), true);
            Check.due("count(1) without " + p, x.count(1), p);
        }
    }

    private static void hereOfNoneSuch() {
        TownBand x = Check.band(3);
        for (int wrong : new int[] {-1, 3, 14, Edge.LEAST, Edge.MOST}) {
            Check.due("here(" + wrong + ", true)", x.here(wrong, true), false);
            Check.due("here(" + wrong + ", false)", x.here(wrong, false), false);
            Check.due("count(1)", x.count(1), 3);
        }
    }

    private static void seatingsStayWhoeverGoes() {
        TownBand x = Edge.players(2, 4, 6);
        Check.load(x, "piece a:1 1 1,must 4,may 4;");
        x.seat(0);
        x.here(0, false);
        x.here(1, false);
        Edge.chairs("both went", x, 0, 0, 1);
        Check.due("COST of those who went", x.seating(0, 0), 12);
        Check.due("seated ones who went", x.seating(0, 2), 2);
        x.here(1, true);
        Edge.chairs("one came back", x, 0, 0, 1);
        Check.due("seated ones who are away", x.seating(0, 2), 1);
    }

    private static void contestsAreCounted() {
        TownBand x = Check.band(2);
        Check.due("contest(1), the first", x.contest(1), 1);
        for (int wrong : new int[] {-1, 2, 14, Edge.LEAST, Edge.MOST}) {
            Check.due("contest(" + wrong + ")", x.contest(wrong), -1);
        }
        Check.due("contest(1), the second", x.contest(1), 2);
        Check.due("contest(0), the first", x.contest(0), 1);
        Check.rule(x, "past=2");
        Check.due("past of 0", x.may(0, 0), 0);
        Check.due("past of 1", x.may(1, 0), 1);
    }

    // Nothing is promised behind the 512th call, but this sentence can be seen there alone.
    private static void thousandContestsAtMost() {
        TownBand x = Check.band(2);
        for (int i = 1; i <= 1000; i++) {
            Check.due("contest(1), the " + i, x.contest(1), i);
        }
        Check.due("contest(1), the 1001st", x.contest(1), -1);
        Check.due("contest(1), the 1001st once more", x.contest(1), -1);
        Check.due("contest(0) of another", x.contest(0), 1);
        Check.rule(x, "past=1000");
        Check.due("past stays 1000", x.may(1, 0), 1);
    }

    private static void countOfEachAndOfAnotherWhat() {
        TownBand x = Check.band(5);
        x.here(0, false);
        x.plays(1, 2, 0);
        Check.load(x, "piece a:1 1 1;piece b:1 1 1,must 2;piece c:1 1 1,must 3;");
        x.tell(0, 0, -2);
        x.programme(1, 0);
        int[] want = {5, 4, 3, 2, 1, 1};
        for (int what = 0; what <= 5; what++) {
            Check.due("count(" + what + ")", x.count(what), want[what]);
        }
        for (int wrong : new int[] {-1, 6, 7, Edge.LEAST, Edge.MOST}) {
            Check.due("count(" + wrong + ")", x.count(wrong), -1);
        }
        fullCounts();
    }

    private static void fullCounts() {
        TownBand x = Check.band(14);
        Check.load(x, Edge.pieces(10));
        for (int w = 0; w < 200; w++) {
            x.tell(0, 0, 0);
        }
        x.programme(600, 18);
        int[] want = {14, 14, 10, 10, 200, 10};
        for (int what = 0; what <= 5; what++) {
            Check.due("full: count(" + what + ")", x.count(what), want[what]);
        }
    }
}
