/** What the edge tests share: small desks, and the lines that are asked of each. */
final class Edge {
    static final int LEAST = Integer.MIN_VALUE;
    static final int MOST = Integer.MAX_VALUE;

    private Edge() {
    }

    /** A desk without players whose library is this text. */
    static TownBand library(String text) {
        TownBand x = new TownBand();
        Check.load(x, text);
        return x;
    }

    /** Players 0 .. n - 1, all HERE, each of whom plays this instrument at this cost. */
    static TownBand players(int n, int instrument, int cost) {
        TownBand x = Check.band(n);
        for (int p = 0; p < n; p++) {
            x.plays(p, instrument, cost);
        }
        return x;
    }

    /** So many pieces without parts: a, b, .. . */
    static String pieces(int n) {
        StringBuilder s = new StringBuilder();
        for (int k = 0; k < n; k++) {
            s.append("piece ").append((char) ('a' + k)).append(":1 1 1;");
        }
        return s.toString();
    }

    static String blanks(int n) {
        return " ".repeat(n);
    }

    /** A text with a fault, on a desk whose library is another one, which must stay. */
    static void textFault(String library, String text, int kind, int place) {
        TownBand x = library(library);
        int there = x.count(2);
        Check.fault(x, text, false, kind, place);
        Check.due("count(2) behind '" + text + "'", x.count(2), there);
    }

    static void textFault(String text, int kind, int place) {
        textFault("", text, kind, place);
    }

    static void textTaken(String text, int pieces) {
        TownBand x = new TownBand();
        Check.due("load of '" + text + "'", Check.load(x, text), pieces);
        Check.due("fault(0) of '" + text + "'", x.fault(0), 0);
        Check.due("fault(1) of '" + text + "'", x.fault(1), -1);
        Check.due("tape behind '" + text + "'", x.end(1), -1);
    }

    /** A rule with a fault, on a desk where nobody may on day 7 alone, which must stay so. */
    static void ruleFault(String text, int kind, int place) {
        TownBand x = new TownBand();
        x.player(20, 100);
        Check.rule(x, "!day=7");
        Check.fault(x, text, true, kind, place);
        Check.due("may(0, 7) behind '" + text + "'", x.may(0, 7), 0);
        Check.due("may(0, 8) behind '" + text + "'", x.may(0, 8), 1);
    }

    static void ruleTaken(String text, int tokens) {
        TownBand x = new TownBand();
        Check.due("rule of '" + text + "'", Check.rule(x, text), tokens);
        Check.due("fault(0) of '" + text + "'", x.fault(0), 0);
        Check.due("fault(1) of '" + text + "'", x.fault(1), -1);
        Check.due("tape behind '" + text + "'", x.end(1), -1);
    }

    static void chairs(String call, TownBand x, int k, int... want) {
        for (int i = 0; i < want.length; i++) {
            Check.due(call + ": chair(" + k + ", " + i + ")", x.chair(k, i), want[i]);
        }
        Check.due(call + ": chair behind the last", x.chair(k, want.length), -1);
    }

    static void plan(String call, TownBand x, int... want) {
        Check.due(call + ": count(5)", x.count(5), want.length);
        for (int i = 0; i < want.length; i++) {
            Check.due(call + ": plan(" + i + ")", x.plan(i), want[i]);
        }
        Check.due(call + ": plan behind the last", x.plan(want.length), -1);
    }
}
