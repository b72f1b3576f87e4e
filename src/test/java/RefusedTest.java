import java.util.ArrayList;
import java.util.List;
import java.util.function.ToIntFunction;

/**
 * A refused call leaves everything as it was: on a desk made anew for each call, questions are asked behind
 * the call, and compared with what a desk answers on which the call was not made. An ordinary desk is asked
 * for each kind of thing that it holds, a new and a full one for fewer, to stay within their 512 calls.
 */
public final class RefusedTest {
    private record Refused(String name, ToIntFunction<TownBand> call, int due) {
    }

    private final List<Refused> calls = new ArrayList<>();

    public static void main(String[] args) {
        onAnOrdinaryDesk();
        onAFullDesk();
        onANewDesk();
        faultsLeaveAllButTheTapeAndTheFault();
        askingChangesNothing();
        Check.end("RefusedTest");
    }

    private void number(String name, ToIntFunction<TownBand> call) {
        calls.add(new Refused(name, call, -1));
    }

    private void yesOrNo(String name, ToIntFunction<TownBand> call) {
        calls.add(new Refused(name, call, 0));
    }

    private static int bit(boolean is) {
        return is ? 1 : 0;
    }

    private void wrongPlayers(int players) {
        for (int[] w : new int[][] {{-1, 5}, {100, 5}, {5, -1}, {5, 1000}}) {
            number("player(" + w[0] + ", " + w[1] + ")", x -> x.player(w[0], w[1]));
        }
        for (int p : new int[] {-1, players, Edge.LEAST, Edge.MOST}) {
            yesOrNo("plays(" + p + ", 0, 5)", x -> bit(x.plays(p, 0, 5)));
            yesOrNo("plays(" + p + ", 0, -1)", x -> bit(x.plays(p, 0, -1)));
            yesOrNo("here(" + p + ", true)", x -> bit(x.here(p, true)));
            yesOrNo("here(" + p + ", false)", x -> bit(x.here(p, false)));
            number("cost(" + p + ", 0)", x -> x.cost(p, 0));
            number("contest(" + p + ")", x -> x.contest(p));
            number("may(" + p + ", 5)", x -> x.may(p, 5));
        }
        for (int[] w : new int[][] {{-1, 5}, {10, 5}, {0, -2}, {0, 10}}) {
            yesOrNo("plays(0, " + w[0] + ", " + w[1] + ")", x -> bit(x.plays(0, w[0], w[1])));
        }
    }

    private void wrongPieces(int pieces) {
        for (int k : new int[] {-1, pieces, Edge.LEAST, Edge.MOST}) {
            number("piece(" + k + ", 0)", x -> x.piece(k, 0));
            number("playable(" + k + ")", x -> x.playable(k));
            number("lacks(" + k + ")", x -> x.lacks(k));
            number("seat(" + k + ")", x -> x.seat(k));
            number("again(" + k + ")", x -> x.again(k));
            number("chair(" + k + ", 0)", x -> x.chair(k, 0));
            yesOrNo("sit(" + k + ", 0, 0)", x -> bit(x.sit(k, 0, 0)));
            yesOrNo("sit(" + k + ", 0, -1)", x -> bit(x.sit(k, 0, -1)));
            number("seating(" + k + ", 0)", x -> x.seating(k, 0));
        }
    }

    private void wrongWords(int players, int words) {
        for (int[] w : new int[][] {{-1, 5, -1}, {30, 5, -1}, {5, -1, -1}, {5, 1000, -1}, {5, 5, -3}, {5, 5, players}}) {
            number("tell(" + w[0] + ", " + w[1] + ", " + w[2] + ")", x -> x.tell(w[0], w[1], w[2]));
        }
        for (int n : new int[] {-1, words + 1}) {
            calls.add(new Refused("where(0, 0, " + n + ")", x -> x.where(0, 0, n), -3));
            number("copies(-1, 0, " + n + ")", x -> x.copies(-1, 0, n));
        }
    }

    private void wrongOthers(int bytes) {
        for (int n : new int[] {-1, bytes + 1, Edge.LEAST, Edge.MOST}) {
            number("end(" + n + ")", x -> x.end(n));
        }
        for (int[] w : new int[][] {{-1, 5}, {601, 5}, {5, -1}, {5, 19}}) {
            number("programme(" + w[0] + ", " + w[1] + ")", x -> x.programme(w[0], w[1]));
        }
        number("fault(2)", x -> x.fault(2));
        number("count(6)", x -> x.count(6));
        number("plan(10)", x -> x.plan(10));
        number("may(0, 1000)", x -> x.may(0, 1000));
        number("may(0, -1)", x -> x.may(0, -1));
    }

    private interface Desk {
        TownBand make();
    }

    private interface Look {
        List<Integer> at(TownBand x);
    }

    private void compare(Desk desk, Look look) {
        List<Integer> want = look.at(desk.make());
        for (Refused refused : calls) {
            TownBand x = desk.make();
            Check.due(refused.name, refused.call.applyAsInt(x), refused.due);
            same("behind " + refused.name, look.at(x), want);
        }
    }

    private static void same(String call, List<Integer> got, List<Integer> want) {
        Check.due(call + ": as many answers", got.size(), want.size());
        for (int i = 0; i < want.size(); i++) {
            Check.due(call + ": answer " + i, got.get(i), want.get(i));
        }
    }

    private static void onAnOrdinaryDesk() {
        RefusedTest test = new RefusedTest();
        test.wrongPlayers(3);
        test.wrongPieces(3);
        test.wrongWords(3, 5);
        test.wrongOthers(14);
        test.number("seat(1), not playable", x -> x.seat(1));
        test.number("again(1), not playable", x -> x.again(1));
        test.yesOrNo("sit(0, 0, 2), who can't", x -> bit(x.sit(0, 0, 2)));
        test.yesOrNo("sit(0, 0, 0), who has another part", x -> bit(x.sit(0, 0, 0)));
        test.yesOrNo("sit(0, 3, 0), no such part", x -> bit(x.sit(0, 3, 0)));
        test.yesOrNo("sit(0, 3, -1), no such part", x -> bit(x.sit(0, 3, -1)));
        test.yesOrNo("sit(0, -1, -1), no such part", x -> bit(x.sit(0, -1, -1)));
        test.yesOrNo("sit(0, 0, 3), no such player", x -> bit(x.sit(0, 0, 3)));
        test.yesOrNo("sit(0, 0, -2), no such player", x -> bit(x.sit(0, 0, -2)));
        test.compare(RefusedTest::ordinary, RefusedTest::all);
    }

    private static void onAFullDesk() {
        RefusedTest test = new RefusedTest();
        test.wrongPlayers(14);
        test.wrongPieces(10);
        test.wrongWords(14, 200);
        test.wrongOthers(800);
        test.number("player(5, 5), the 15th", x -> x.player(5, 5));
        test.number("tell(5, 5, 5), the 201st", x -> x.tell(5, 5, 5));
        test.number("feed beyond 800", x -> x.feed(-1, -1, -1, -1, -1));
        test.compare(RefusedTest::full, RefusedTest::some);
    }

    private static void onANewDesk() {
        RefusedTest test = new RefusedTest();
        test.wrongPlayers(0);
        test.wrongPieces(0);
        test.wrongWords(0, 0);
        test.wrongOthers(0);
        test.compare(TownBand::new, RefusedTest::some);
    }

    // The latest reading had a fault, a text is on the tape, a piece is not playable and has a seating.
    private static TownBand ordinary() {
        TownBand x = new TownBand();
        x.player(20, 5);
        x.player(40, 6);
        x.player(60, 7);
        x.here(0, true);
        x.here(1, true);
        x.plays(0, 0, 3);
        x.plays(0, 1, 4);
        x.plays(1, 1, 5);
        x.plays(1, 9, 1);
        x.plays(2, 8, 2);
        Check.load(x, "piece a:10 4 0,may 0,must 1 or 0,may 1;piece b:5 1 11,must 8,may 1;piece c:7 0 6,may 0;");
        x.sit(0, 1, 0);
        x.sit(0, 2, 1);
        x.sit(1, 0, 2);
        x.sit(2, 0, 0);
        Check.rule(x, "past<2&out<2");
        x.programme(600, 18);
        x.tell(0, 5, 0);
        x.tell(1, 5, 0);
        x.tell(1, 6, 1);
        x.tell(2, 0, -2);
        x.tell(1, 4, 2);
        x.contest(0);
        x.contest(1);
        x.contest(1);
        Check.load(x, "piece q");
        Check.put(x, "piece d:3 2 1;");
        return x;
    }

    private static TownBand full() {
        TownBand x = Check.band(14);
        Check.load(x, Edge.pieces(9) + "piece j:9 8 7" + ",must 5".repeat(10) + ";");
        for (int p = 0; p < 12; p++) {
            x.plays(p, 5, p % 4);
        }
        x.seat(9);
        x.here(13, false);
        x.programme(15, 18);
        for (int w = 0; w < 200; w++) {
            x.tell(w % 30, w * 5, w % 16 - 2);
        }
        Check.rule(x, "day>500");
        Check.put(x, Edge.blanks(799) + ";");
        return x;
    }

    /** Each kind of thing that an ordinary desk holds; the calls that change it come last. */
    private static List<Integer> all(TownBand x) {
        List<Integer> seen = new ArrayList<>(desk(x));
        seen.add(x.fault(0));
        seen.add(x.fault(1));
        seen.add(x.end(15));
        seen.add(x.end(14));
        seen.add(x.load());
        seen.add(x.piece(3, 0));
        seen.add(x.piece(3, 1));
        seen.add(x.piece(3, 2));
        next(x, seen);
        return seen;
    }

    private static List<Integer> desk(TownBand x) {
        List<Integer> seen = new ArrayList<>();
        for (int what = 0; what <= 5; what++) {
            seen.add(x.count(what));
        }
        for (int p = 0; p < 3; p++) {
            for (int i = 0; i < 10; i++) {
                seen.add(x.cost(p, i));
            }
            for (int day = 4; day <= 6; day++) {
                seen.add(x.may(p, day));
            }
        }
        for (int k = 0; k < 3; k++) {
            seatingOf(x, k, seen);
        }
        for (int i = 0; i <= 3; i++) {
            seen.add(x.plan(i));
        }
        seen.add(x.strain());
        for (int n = 0; n <= 5; n++) {
            seen.add(x.where(1, 5, n));
            seen.add(x.copies(0, 5, n));
            seen.add(x.copies(-1, 5, n));
        }
        return seen;
    }

    private static void seatingOf(TownBand x, int k, List<Integer> seen) {
        for (int what = 0; what <= 4; what++) {
            seen.add(x.piece(k, what));
        }
        for (int i = 0; i <= 3; i++) {
            seen.add(x.chair(k, i));
            seen.add(x.piece(k, 10 + i));
            seen.add(x.piece(k, 100 + 10 * i));
        }
        for (int what = 0; what <= 2; what++) {
            seen.add(x.seating(k, what));
        }
        seen.add(x.playable(k));
        seen.add(x.lacks(k));
    }

    // What comes next tells the numbers, and a rule the ages and the days of joining.
    private static void next(TownBand x, List<Integer> seen) {
        for (int p = 0; p < 3; p++) {
            seen.add(x.contest(p));
        }
        seen.add(x.tell(0, 0, -1));
        for (int p = 0; p < 3; p++) {
            Check.rule(x, "age=" + (20 + 20 * p) + "&day-days=" + (5 + p));
            seen.add(x.may(p, 9));
        }
        seen.add(x.player(1, 1));
        seen.add(x.cost(3, 0));
        seen.add(x.count(1));
    }

    /** Less of each, so that a full desk stays within its calls. */
    private static List<Integer> some(TownBand x) {
        List<Integer> seen = new ArrayList<>();
        for (int what = 0; what <= 5; what++) {
            seen.add(x.count(what));
        }
        for (int k = 0; k < 10; k++) {
            seen.add(x.piece(k, 0));
            seen.add(x.seating(k, 1));
            seen.add(x.chair(9, k));
            seen.add(x.plan(k));
            seen.add(x.cost(k, 5));
            seen.add(x.where(k, 900, x.count(4)));
        }
        seen.add(x.may(0, 500));
        seen.add(x.may(0, 501));
        seen.add(x.fault(0));
        seen.add(x.fault(1));
        seen.add(x.end(801));
        seen.add(x.end(800));
        seen.add(x.end(1));
        x.end(0);
        seen.add(x.load());
        seen.add(x.tell(0, 0, 0));
        seen.add(x.player(1, 1));
        seen.add(x.contest(0));
        return seen;
    }

    private static void faultsLeaveAllButTheTapeAndTheFault() {
        String[] texts = {"x", "piece e:1 1 1,may 0;piece f:1 1 1;;", "piece e:1 1 1;piece a:1 1 1;", "piece e:1 1 61;",
            "piece e:2 3 4,must 5 or 6 or 7 or 8 or 9;", "piece e:9 9 9,must 9,must 9,may"};
        String[] rules = {"", "1=2&", "(1=2", "!!!!!!!!!1=2", "past>0&out>0|x"};
        List<Integer> want = desk(ordinary());
        for (String text : texts) {
            TownBand x = ordinary();
            x.end(0);
            Check.due("load of '" + text + "'", Check.load(x, text), -1);
            same("behind '" + text + "'", desk(x), want);
            Check.due("the tape behind '" + text + "'", x.end(1), -1);
        }
        for (String text : rules) {
            TownBand x = ordinary();
            x.end(0);
            Check.due("rule of '" + text + "'", Check.rule(x, text), -1);
            same("behind '" + text + "'", desk(x), want);
            Check.due("the tape behind '" + text + "'", x.end(1), -1);
        }
    }

    private static void askingChangesNothing() {
        List<Integer> want = all(ordinary());
        TownBand x = ordinary();
        desk(x);
        same("asked twice", all(x), want);
    }
}
