/** Promises 22 to 24: words about copies, where a copy is, and how many are somewhere. */
public final class LoansTest {
    public static void main(String[] args) {
        words();
        wrongWords();
        places();
        many();
        Check.end("LoansTest");
    }

    private static void words() {
        TownBand x = Check.band(2);
        Check.due("tell(29, 999, 1)", x.tell(29, 999, 1), 0);
        Check.due("tell(0, 0, -1)", x.tell(0, 0, -1), 1);
        Check.due("tell(0, 0, -2)", x.tell(0, 0, -2), 2);
        for (int n = 3; n < 200; n++) {
            Check.due("tell, the " + n, x.tell(n % 30, n, 0), n);
        }
        Check.due("the 201st", x.tell(0, 0, 0), -1);
        Check.due("count(4)", x.count(4), 200);
        Check.due("where by all 200", x.where(0, 999, 200), 0);
        Check.due("where by 201", x.where(0, 999, 201), -3);
    }

    private static void wrongWords() {
        TownBand x = Check.band(2);
        int[][] wrong = {{-1, 0, 0}, {30, 0, 0}, {0, -1, 0}, {0, 1000, 0}, {0, 0, 2}, {0, 0, -3}, {0, 0, 14}};
        for (int[] w : wrong) {
            Check.due("tell(" + w[0] + ", " + w[1] + ", " + w[2] + ")", x.tell(w[0], w[1], w[2]), -1);
        }
        Check.due("count(4)", x.count(4), 0);
        x.tell(0, 0, 0);
        int[][] where = {{-1, 0, 0}, {30, 0, 0}, {0, -1, 0}, {0, 1000, 0}, {0, 0, -1}, {0, 0, 2}};
        for (int[] w : where) {
            Check.due("where(" + w[0] + ", " + w[1] + ", " + w[2] + ")", x.where(w[0], w[1], w[2]), -3);
        }
        int[][] copies = {{2, 0, 0}, {-3, 0, 0}, {0, -1, 0}, {0, 1000, 0}, {0, 0, -1}, {0, 0, 2}};
        for (int[] w : copies) {
            Check.due("copies(" + w[0] + ", " + w[1] + ", " + w[2] + ")", x.copies(w[0], w[1], w[2]), -1);
        }
    }

    private static void places() {
        TownBand x = Check.band(3);
        x.tell(7, 50, 0);
        x.tell(7, 20, 1);
        x.tell(7, 50, 2);
        x.tell(7, 30, -2);
        x.tell(8, 0, 2);
        int[][] want = {{19, 5, -1}, {20, 5, 1}, {29, 5, 1}, {30, 5, -2}, {49, 5, -2}, {50, 5, 2}, {999, 5, 2},
            {30, 3, 1}, {50, 2, 0}, {50, 1, 0}, {49, 1, -1}, {50, 0, -1}};
        for (int[] w : want) {
            Check.due("where(7, " + w[0] + ", " + w[1] + ")", x.where(7, w[0], w[1]), w[2]);
        }
        Check.due("another copy by 4", x.where(8, 10, 4), -1);
        Check.due("another copy by 5", x.where(8, 0, 5), 2);
        x.here(2, false);
        Check.due("whoever goes", x.where(8, 0, 5), 2);
    }

    private static void many() {
        TownBand x = Check.band(3);
        x.tell(0, 10, 0);
        x.tell(1, 10, 0);
        x.tell(2, 20, 0);
        x.tell(0, 10, -2);
        x.tell(1, 15, -1);
        int[][] want = {{0, 10, 3, 2}, {0, 9, 3, 0}, {0, 20, 3, 3}, {0, 20, 4, 2}, {0, 20, 5, 1}, {-2, 20, 5, 1},
            {-2, 9, 5, 0}, {-1, 9, 5, 30}, {-1, 20, 5, 28}, {-1, 20, 4, 27}, {1, 20, 5, 0}, {-1, 0, 0, 30}};
        for (int[] w : want) {
            Check.due("copies(" + w[0] + ", " + w[1] + ", " + w[2] + ")", x.copies(w[0], w[1], w[2]), w[3]);
        }
    }
}
