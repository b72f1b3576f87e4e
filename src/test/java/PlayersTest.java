/** Promises 1 to 5, 25 and 27: a new object, players, what they play, who is here, contests, counts. */
public final class PlayersTest {
    public static void main(String[] args) {
        newObject();
        comers();
        instruments();
        presence();
        contests();
        counts();
        Check.end("PlayersTest");
    }

    private static void newObject() {
        TownBand x = new TownBand();
        for (int what = 0; what <= 5; what++) {
            Check.due("new: count(" + what + ")", x.count(what), 0);
        }
        Check.due("new: fault(0)", x.fault(0), 0);
        Check.due("new: fault(1)", x.fault(1), -1);
        Check.due("new: fault(2)", x.fault(2), -1);
        Check.due("new: fault(-1)", x.fault(-1), -1);
        Check.due("new: end(0)", x.end(0), 0);
        Check.due("new: end(1)", x.end(1), -1);
        Check.due("new: strain()", x.strain(), 0);
        Check.due("new: plan(0)", x.plan(0), -1);
        Check.due("new: where(0, 0, 0)", x.where(0, 0, 0), -1);
        Check.due("new: copies(-1, 999, 0)", x.copies(-1, 999, 0), 30);
        Check.due("new: load()", x.load(), 0);
        Check.due("new: rule()", x.rule(), -1);
        Check.due("new: fault(0) of an empty rule", x.fault(0), 1);
        Check.due("new: fault(1) of an empty rule", x.fault(1), 0);
        TownBand y = new TownBand();
        y.player(1, 1);
        Check.due("new: another's count(0)", x.count(0), 0);
    }

    private static void comers() {
        TownBand x = new TownBand();
        int[][] wrong = {{-1, 0}, {100, 0}, {0, -1}, {0, 1000}, {Integer.MIN_VALUE, 5}, {5, Integer.MAX_VALUE}};
        for (int[] w : wrong) {
            Check.due("player(" + w[0] + ", " + w[1] + ")", x.player(w[0], w[1]), -1);
        }
        Check.due("nobody came", x.count(0), 0);
        for (int p = 0; p < 14; p++) {
            Check.due("player " + p, x.player(p % 2 == 0 ? 0 : 99, p % 3 == 0 ? 0 : 999), p);
        }
        Check.due("the 15th", x.player(30, 3), -1);
        Check.due("count(0)", x.count(0), 14);
        Check.due("nobody is here at first", x.count(1), 0);
    }

    private static void instruments() {
        TownBand x = new TownBand();
        Check.due("plays of none", x.plays(0, 0, 0), false);
        x.player(20, 0);
        x.player(20, 0);
        for (int i = 0; i < 10; i++) {
            Check.due("cost(0, " + i + ") at first", x.cost(0, i), -1);
        }
        Check.due("plays(0, 0, 0)", x.plays(0, 0, 0), true);
        Check.due("plays(0, 9, 9)", x.plays(0, 9, 9), true);
        Check.due("cost(0, 0)", x.cost(0, 0), 0);
        Check.due("cost(0, 9)", x.cost(0, 9), 9);
        Check.due("cost(1, 9)", x.cost(1, 9), -1);
        Check.due("plays(0, 9, 10)", x.plays(0, 9, 10), false);
        Check.due("plays(0, 9, -2)", x.plays(0, 9, -2), false);
        Check.due("plays(0, 10, 1)", x.plays(0, 10, 1), false);
        Check.due("plays(0, -1, 1)", x.plays(0, -1, 1), false);
        Check.due("plays(2, 0, 1)", x.plays(2, 0, 1), false);
        Check.due("plays(-1, 0, 1)", x.plays(-1, 0, 1), false);
        Check.due("cost(0, 9) stays", x.cost(0, 9), 9);
        Check.due("cost(1, 0) stays", x.cost(1, 0), -1);
        Check.due("plays(0, 9, -1)", x.plays(0, 9, -1), true);
        Check.due("cost(0, 9) taken", x.cost(0, 9), -1);
        Check.due("cost(0, 10)", x.cost(0, 10), -1);
        Check.due("cost(0, -1)", x.cost(0, -1), -1);
        Check.due("cost(-1, 0)", x.cost(-1, 0), -1);
        Check.due("cost(2, 0)", x.cost(2, 0), -1);
    }

    private static void presence() {
        TownBand x = new TownBand();
        x.player(20, 0);
        x.player(20, 0);
        Check.due("here(2, true)", x.here(2, true), false);
        Check.due("here(-1, true)", x.here(-1, true), false);
        Check.due("here(2, false)", x.here(2, false), false);
        Check.due("here(1, true)", x.here(1, true), true);
        Check.due("here(1, true) again", x.here(1, true), true);
        Check.due("count(1)", x.count(1), 1);
        Check.due("here(0, false)", x.here(0, false), true);
        Check.due("count(1) still", x.count(1), 1);
        Check.due("here(1, false)", x.here(1, false), true);
        Check.due("count(1) of none", x.count(1), 0);
    }

    private static void contests() {
        TownBand x = new TownBand();
        Check.due("contest of none", x.contest(0), -1);
        x.player(20, 0);
        x.player(20, 0);
        Check.due("contest(-1)", x.contest(-1), -1);
        Check.due("contest(2)", x.contest(2), -1);
        for (int i = 1; i <= 400; i++) {
            Check.due("contest(0), the " + i, x.contest(0), i);
        }
        Check.due("contest(1)", x.contest(1), 1);
    }

    private static void counts() {
        TownBand x = Check.band(3);
        x.here(1, false);
        x.plays(0, 4, 1);
        Check.load(x, "piece a:5 1 1,must 4;piece b:6 1 1,must 5;piece c:7 1 1;");
        x.programme(600, 18);
        x.tell(0, 0, 0);
        x.tell(0, 0, 1);
        x.tell(0, 0, 1);
        x.tell(0, 0, -2);
        int[] want = {3, 2, 3, 2, 4, 2};
        for (int what = 0; what < want.length; what++) {
            Check.due("count(" + what + ")", x.count(what), want[what]);
        }
        Check.due("count(6)", x.count(6), -1);
        Check.due("count(-1)", x.count(-1), -1);
        x.plays(0, 4, -1);
        Check.due("count(3) when it is lost", x.count(3), 1);
        Check.due("count(5) stays", x.count(5), 2);
    }
}
