/** The bounds of Terms 5 and of promises 22 to 24, a sentence at a time. */
public final class EdgeLoansTest {
    public static void main(String[] args) {
        noWord();
        copiesFrom0To29();
        daysFrom0To999();
        placesFromLostToTheLastPlayer();
        playersWhoCameLater();
        twoHundredWordsAtMost();
        refusedWordsTakeNoNumber();
        firstWordsFromNoneToAll();
        fromItsDayOn();
        latestToldOfOneDay();
        greaterDayAheadOfToldLater();
        laterWordsChangeNothingByEarlierOnes();
        copiesOfNoneSuch();
        allThirtyCopies();
        copiesAgreeWithWhere();
        Check.end("EdgeLoansTest");
    }

    private static void noWord() {
        TownBand x = Check.band(1);
        for (int copy = 0; copy < 30; copy++) {
            Check.due("where(" + copy + ", 0, 0)", x.where(copy, 0, 0), -1);
            Check.due("where(" + copy + ", 999, 0)", x.where(copy, 999, 0), -1);
        }
        Check.due("copies(-1, 999, 0)", x.copies(-1, 999, 0), 30);
        Check.due("copies(-2, 999, 0)", x.copies(-2, 999, 0), 0);
        Check.due("copies(0, 999, 0)", x.copies(0, 999, 0), 0);
        Check.due("where by one word", x.where(0, 0, 1), -3);
        Check.due("copies by one word", x.copies(-1, 0, 1), -1);
        Check.due("count(4)", x.count(4), 0);
    }

    private static void copiesFrom0To29() {
        TownBand x = Check.band(1);
        Check.due("tell(-1, 5, 0)", x.tell(-1, 5, 0), -1);
        Check.due("tell(0, 5, 0)", x.tell(0, 5, 0), 0);
        Check.due("tell(29, 5, 0)", x.tell(29, 5, 0), 1);
        Check.due("tell(30, 5, 0)", x.tell(30, 5, 0), -1);
        Check.due("tell(least, 5, 0)", x.tell(Edge.LEAST, 5, 0), -1);
        Check.due("tell(most, 5, 0)", x.tell(Edge.MOST, 5, 0), -1);
        int[][] want = {{-1, -3}, {0, 0}, {1, -1}, {28, -1}, {29, 0}, {30, -3}, {Edge.LEAST, -3}, {Edge.MOST, -3}};
        for (int[] w : want) {
            Check.due("where(" + w[0] + ", 5, 2)", x.where(w[0], 5, 2), w[1]);
        }
        Check.due("copies(0, 5, 2)", x.copies(0, 5, 2), 2);
    }

    private static void daysFrom0To999() {
        TownBand x = Check.band(2);
        Check.due("tell(0, -1, 0)", x.tell(0, -1, 0), -1);
        Check.due("tell(0, 0, 0)", x.tell(0, 0, 0), 0);
        Check.due("tell(0, 999, 1)", x.tell(0, 999, 1), 1);
        Check.due("tell(0, 1000, -2)", x.tell(0, 1000, -2), -1);
        Check.due("tell(0, least, -2)", x.tell(0, Edge.LEAST, -2), -1);
        Check.due("tell(0, most, -2)", x.tell(0, Edge.MOST, -2), -1);
        int[][] want = {{-1, -3, -1}, {0, 0, 1}, {998, 0, 1}, {999, 1, 0}, {1000, -3, -1}, {Edge.LEAST, -3, -1},
            {Edge.MOST, -3, -1}};
        for (int[] w : want) {
            Check.due("where(0, " + w[0] + ", 2)", x.where(0, w[0], 2), w[1]);
            Check.due("copies(0, " + w[0] + ", 2)", x.copies(0, w[0], 2), w[2]);
        }
    }

    private static void placesFromLostToTheLastPlayer() {
        TownBand x = Check.band(3);
        int[] taken = {-2, -1, 0, 2};
        for (int i = 0; i < taken.length; i++) {
            Check.due("tell(3, 4, " + taken[i] + ")", x.tell(3, 4, taken[i]), i);
            Check.due("where by it", x.where(3, 4, i + 1), taken[i]);
            Check.due("copies there by it", x.copies(taken[i], 4, i + 1), taken[i] == -1 ? 30 : 1);
        }
        for (int wrong : new int[] {-3, -4, 3, 14, Edge.LEAST, Edge.MOST}) {
            Check.due("tell(3, 4, " + wrong + ")", x.tell(3, 4, wrong), -1);
            Check.due("copies(" + wrong + ", 4, 4)", x.copies(wrong, 4, 4), -1);
        }
        Check.due("count(4)", x.count(4), 4);
        Check.due("where(3, 4, 4)", x.where(3, 4, 4), 2);
    }

    private static void playersWhoCameLater() {
        TownBand x = new TownBand();
        Check.due("tell of nobody", x.tell(0, 0, 0), -1);
        Check.due("copies of nobody", x.copies(0, 0, 0), -1);
        x.player(5, 500);
        Check.due("tell of one who is not here", x.tell(0, 0, 0), 0);
        Check.due("copies of one", x.copies(0, 0, 1), 1);
        Check.due("copies of one by none", x.copies(0, 0, 0), 0);
    }

    private static void twoHundredWordsAtMost() {
        TownBand x = Check.band(1);
        for (int w = 0; w < 199; w++) {
            Check.due("word " + w, x.tell(7, 0, w % 2 - 1), w);
        }
        Check.due("where by 200 of 199", x.where(7, 0, 200), -3);
        Check.due("word 199", x.tell(7, 0, -2), 199);
        Check.due("word 200", x.tell(7, 0, 0), -1);
        Check.due("word 200 once more", x.tell(0, 0, 0), -1);
        Check.due("count(4)", x.count(4), 200);
        Check.due("where by all 200", x.where(7, 0, 200), -2);
        Check.due("where by 199", x.where(7, 0, 199), -1);
        Check.due("where by 198", x.where(7, 0, 198), 0);
        Check.due("where by 201", x.where(7, 0, 201), -3);
        Check.due("copies by all 200", x.copies(-2, 0, 200), 1);
        Check.due("copies by 201", x.copies(-2, 0, 201), -1);
    }

    private static void refusedWordsTakeNoNumber() {
        TownBand x = Check.band(1);
        x.tell(30, 0, 0);
        x.tell(0, 1000, 0);
        x.tell(0, 0, 1);
        Check.due("the first behind refused ones", x.tell(1, 1, 0), 0);
        x.tell(-1, 0, 0);
        x.tell(0, -1, 0);
        x.tell(0, 0, -3);
        Check.due("the second behind refused ones", x.tell(1, 2, -1), 1);
        Check.due("count(4)", x.count(4), 2);
        Check.due("copy 0 was not told of", x.where(0, 999, 2), -1);
    }

    private static void firstWordsFromNoneToAll() {
        TownBand x = Check.band(3);
        x.tell(0, 0, 0);
        x.tell(0, 0, 1);
        x.tell(0, 0, 2);
        int[][] want = {{-1, -3, -1}, {0, -1, 0}, {1, 0, 1}, {2, 1, 0}, {3, 2, 0}, {4, -3, -1}, {Edge.LEAST, -3, -1},
            {Edge.MOST, -3, -1}};
        for (int[] w : want) {
            Check.due("where(0, 0, " + w[0] + ")", x.where(0, 0, w[0]), w[1]);
            Check.due("copies(0, 0, " + w[0] + ")", x.copies(0, 0, w[0]), w[2]);
        }
    }

    private static void fromItsDayOn() {
        for (int day : new int[] {0, 1, 500, 998, 999}) {
            TownBand x = Check.band(1);
            x.tell(4, day, 0);
            Check.due("the day ahead of " + day, x.where(4, day - 1, 1), day == 0 ? -3 : -1);
            Check.due("on " + day, x.where(4, day, 1), 0);
            Check.due("the day behind " + day, x.where(4, day + 1, 1), day == 999 ? -3 : 0);
            Check.due("on the last day", x.where(4, 999, 1), 0);
            Check.due("another copy", x.where(5, day, 1), -1);
        }
    }

    private static void latestToldOfOneDay() {
        TownBand x = Check.band(2);
        x.tell(4, 10, 0);
        x.tell(4, 10, 1);
        x.tell(5, 10, -2);
        Check.due("of one day", x.where(4, 10, 3), 1);
        x.tell(4, 10, -1);
        Check.due("back on the shelf", x.where(4, 10, 4), -1);
        Check.due("on the shelf again", x.copies(-1, 10, 4), 29);
        x.tell(5, 10, 0);
        Check.due("found again", x.where(5, 10, 5), 0);
    }

    private static void greaterDayAheadOfToldLater() {
        TownBand x = Check.band(2);
        x.tell(4, 10, 0);
        x.tell(4, 9, 1);
        Check.due("on 10", x.where(4, 10, 2), 0);
        Check.due("on 9", x.where(4, 9, 2), 1);
        x.tell(4, 11, -2);
        x.tell(4, 0, -1);
        int[][] want = {{0, -1}, {8, -1}, {9, 1}, {10, 0}, {11, -2}, {999, -2}};
        for (int[] w : want) {
            Check.due("where(4, " + w[0] + ", 4)", x.where(4, w[0], 4), w[1]);
        }
    }

    private static void laterWordsChangeNothingByEarlierOnes() {
        TownBand x = Check.band(3);
        int[][] words = {{1, 5, 0}, {1, 3, 1}, {2, 5, -2}, {1, 5, 2}, {1, 0, -2}, {2, 4, 0}, {1, 9, -1}, {2, 5, 1}};
        int[] before = new int[words.length + 1];
        for (int n = 0; n <= words.length; n++) {
            before[n] = x.where(1, 5, n) * 100 + x.copies(0, 5, n);
            for (int m = 0; m <= n; m++) {
                Check.due("by " + m + " of " + n, x.where(1, 5, m) * 100 + x.copies(0, 5, m), before[m]);
            }
            if (n < words.length) {
                Check.due("word " + n, x.tell(words[n][0], words[n][1], words[n][2]), n);
            }
        }
    }

    private static void copiesOfNoneSuch() {
        TownBand x = Check.band(2);
        x.tell(0, 0, 0);
        int[][] wrong = {{2, 0, 1}, {-3, 0, 1}, {0, -1, 1}, {0, 1000, 1}, {0, 0, -1}, {0, 0, 2}};
        for (int[] w : wrong) {
            Check.due("copies(" + w[0] + ", " + w[1] + ", " + w[2] + ")", x.copies(w[0], w[1], w[2]), -1);
        }
        int[][] right = {{1, 0, 1, 0}, {-2, 0, 1, 0}, {-1, 0, 1, 29}, {0, 999, 1, 1}, {0, 0, 0, 0}, {0, 0, 1, 1}};
        for (int[] w : right) {
            Check.due("copies(" + w[0] + ", " + w[1] + ", " + w[2] + ")", x.copies(w[0], w[1], w[2]), w[3]);
        }
    }

    private static void allThirtyCopies() {
        TownBand x = Check.band(1);
        for (int copy = 0; copy < 30; copy++) {
            x.tell(copy, 1, 0);
            Check.due("with 0, by " + copy, x.copies(0, 1, copy + 1), copy + 1);
            Check.due("on the shelf, by " + copy, x.copies(-1, 1, copy + 1), 29 - copy);
        }
        Check.due("ahead of the day", x.copies(-1, 0, 30), 30);
        for (int copy = 0; copy < 30; copy++) {
            x.tell(copy, 2, -2);
        }
        Check.due("lost", x.copies(-2, 2, 60), 30);
        Check.due("with 0", x.copies(0, 2, 60), 0);
        Check.due("with 0 the day ahead", x.copies(0, 1, 60), 30);
    }

    private static void copiesAgreeWithWhere() {
        TownBand x = Check.band(2);
        for (int w = 0; w < 60; w++) {
            x.tell(w * 7 % 30, w * 13 % 40, w * 5 % 4 - 2);
        }
        for (int there = -2; there < 2; there++) {
            int sum = 0;
            for (int copy = 0; copy < 30; copy++) {
                sum += x.where(copy, 20, 60) == there ? 1 : 0;
            }
            Check.due("copies(" + there + ", 20, 60)", x.copies(there, 20, 60), sum);
        }
    }
}
