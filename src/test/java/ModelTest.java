import java.nio.charset.StandardCharsets;
import java.util.Random;

/** Runs of calls drawn with fixed seeds, edges and wrong inputs among them, compared with ModelBand. */
public final class ModelTest {
    private static final int RUNS = 300;
    private static final int CALLS = 512;

    private final Random random;
    private final TownBand x = new TownBand();
    private final ModelBand y = new ModelBand();
    private final int mostPlayers;
    private final int mostPieces;
    private final int skill;
    private int calls;

    private ModelTest(long seed) {
        random = new Random(seed);
        mostPlayers = random.nextInt(4) == 0 ? 14 : 1 + random.nextInt(10);
        mostPieces = random.nextInt(40) == 0 ? 10 : 1 + random.nextInt(7);
        skill = 5 + random.nextInt(60);
    }

    public static void main(String[] args) {
        int runs = args.length > 0 ? Integer.parseInt(args[0]) : RUNS;
        for (int seed = 0; seed < runs; seed++) {
            new ModelTest(seed).go(seed);
        }
        Check.end("ModelTest");
    }

    private void go(int seed) {
        while (calls < CALLS - 45) {
            step("run " + seed + ", call " + calls + ": ");
        }
    }

    private int near(int low, int high) {
        int r = random.nextInt(40);
        if (r == 0) {
            return low - 1;
        }
        if (r == 1) {
            return high + 1;
        }
        if (r == 2 && random.nextInt(4) == 0) {
            return random.nextInt();
        }
        return r < 6 ? (r < 4 ? low : high) : low + random.nextInt(Math.max(1, high - low + 1));
    }

    private int who() {
        return near(0, y.players.size() - 1);
    }

    private int which() {
        return near(0, y.pieces.size() - 1);
    }

    private void due(String call, long got, long want) {
        calls++;
        Check.due(call, got, want);
    }

    private void step(String run) {
        switch (random.nextInt(22)) {
            case 0 -> comer(run);
            case 1, 2, 3 -> skills(run);
            case 4, 5 -> presence(run);
            case 6 -> text(run);
            case 7 -> rule(run);
            case 8 -> details(run);
            case 9, 10 -> covers(run);
            case 11, 12, 13 -> seats(run);
            case 14, 15 -> hands(run);
            case 16 -> programmes(run);
            case 17, 18 -> loans(run);
            case 19 -> looks(run);
            case 20 -> judges(run);
            default -> tape(run);
        }
    }

    private void comer(String run) {
        if (y.players.size() >= mostPlayers && mostPlayers < 14) {
            return;
        }
        int age = near(0, 99);
        int day = near(0, 999);
        due(run + "player(" + age + ", " + day + ")", x.player(age, day), y.player(age, day));
        due(run + "count(0)", x.count(0), y.count(0));
        for (int i = 0; i < 10; i++) {
            if (random.nextInt(100) < skill) {
                int c = random.nextInt(random.nextBoolean() ? 10 : 3);
                int p = y.players.size() - 1;
                due(run + "plays", x.plays(p, i, c) ? 1 : 0, y.plays(p, i, c) ? 1 : 0);
            }
        }
        int p = y.players.size() - 1;
        due(run + "here", x.here(p, true) ? 1 : 0, y.here(p, true) ? 1 : 0);
    }

    private void skills(String run) {
        int p = who();
        int i = near(0, 9);
        int c = near(-1, random.nextBoolean() ? 9 : 3);
        due(run + "plays(" + p + ", " + i + ", " + c + ")", x.plays(p, i, c) ? 1 : 0, y.plays(p, i, c) ? 1 : 0);
        due(run + "cost(" + p + ", " + i + ")", x.cost(p, i), y.cost(p, i));
    }

    private void presence(String run) {
        int p = who();
        boolean is = random.nextInt(3) > 0;
        due(run + "here(" + p + ")", x.here(p, is) ? 1 : 0, y.here(p, is) ? 1 : 0);
        due(run + "count(1)", x.count(1), y.count(1));
    }

    private void put(String run, String text) {
        due(run + "end(0)", x.end(0), y.end(0));
        byte[] bytes = text.getBytes(StandardCharsets.ISO_8859_1);
        for (int from = 0; from < bytes.length; from += 20) {
            int[] w = Check.words(bytes, from);
            due(run + "feed", x.feed(w[0], w[1], w[2], w[3], w[4]), y.feed(w));
        }
        int n = Math.min(800, bytes.length);
        due(run + "end(" + n + ")", x.end(n), y.end(n));
    }

    private String gap() {
        return random.nextInt(12) == 0 ? "\n" : random.nextInt(3) == 0 ? " " : "";
    }

    private String spoil(String text) {
        if (random.nextInt(4) > 0 || text.isEmpty()) {
            return text;
        }
        String signs = ":,;|&!()<=>+-019 azor.\0\t\377A";
        StringBuilder s = new StringBuilder(text);
        int at = random.nextInt(s.length());
        char c = signs.charAt(random.nextInt(signs.length()));
        switch (random.nextInt(4)) {
            case 0 -> s.setCharAt(at, c);
            case 1 -> s.insert(at, c);
            case 2 -> s.deleteCharAt(at);
            default -> s.setLength(at);
        }
        return s.toString();
    }

    private String name() {
        StringBuilder s = new StringBuilder();
        int length = 1 + random.nextInt(random.nextInt(30) == 0 ? 8 : 3);
        for (int i = 0; i < length; i++) {
            s.append((char) ('a' + random.nextInt(random.nextBoolean() ? 26 : 4)));
        }
        return s.toString();
    }

    private String number(int low, int high) {
        int n = random.nextInt(90) == 0 ? high + 1 : random.nextInt(90) == 0 ? low - 1 : low + random.nextInt(high - low + 1);
        String s = Integer.toString(Math.max(0, n));
        return gap() + (random.nextInt(15) == 0 ? "0" + s : s) + gap();
    }

    private void onePiece(StringBuilder s, int mostParts) {
        s.append(gap()).append("piece ").append(gap()).append(name()).append(gap()).append(":");
        int longest = random.nextBoolean() ? 60 : 6;
        s.append(number(1, longest)).append(" ").append(number(0, 9)).append(" ").append(number(0, 11));
        int parts = random.nextInt(mostParts + 1);
        for (int i = 0; i < parts; i++) {
            s.append(",").append(gap()).append(random.nextInt(5) < 2 ? "must" : "may");
            s.append(number(0, 9));
            int choices = random.nextInt(60) == 0 ? 4 : random.nextInt(3);
            for (int j = 0; j < choices; j++) {
                s.append("or").append(number(0, 9));
            }
        }
        s.append(";").append(gap());
    }

    private void text(String run) {
        StringBuilder s = new StringBuilder();
        int pieces = random.nextInt(30) == 0 ? 11 : random.nextInt(3);
        if (mostPieces < 10) {
            pieces = Math.min(pieces, mostPieces - y.pieces.size());
        }
        for (int i = 0; i < pieces; i++) {
            onePiece(s, pieces > 3 ? 1 : random.nextInt(20) == 0 ? 11 : 10);
        }
        String text = spoil(s.toString());
        put(run, text);
        due(run + "load() of '" + text + "'", x.load(), y.load());
        faults(run + "behind '" + text + "' ");
    }

    private void faults(String run) {
        for (int what = 0; what < 3; what++) {
            due(run + "fault(" + what + ")", x.fault(what), y.fault(what));
        }
        due(run + "count(2)", x.count(2), y.count(2));
    }

    private String value() {
        String[] all = {"age", "days", "past", "out", "day"};
        int n = random.nextInt(10) == 0 ? 10000 : random.nextBoolean() ? 4 : 1000;
        return gap() + (random.nextBoolean() ? all[random.nextInt(5)] : Integer.toString(random.nextInt(n))) + gap();
    }

    private String sum() {
        StringBuilder s = new StringBuilder(value());
        while (random.nextInt(3) == 0) {
            s.append(random.nextBoolean() ? "+" : "-").append(value());
        }
        return s.toString();
    }

    private String term(int depth) {
        int r = random.nextInt(10);
        if (depth > 0 && r < 3) {
            return "!" + gap() + term(depth - 1);
        }
        if (depth > 0 && r < 6) {
            return "(" + either(depth - 1) + ")" + gap();
        }
        return sum() + "<=>".charAt(random.nextInt(3)) + sum();
    }

    private String either(int depth) {
        StringBuilder s = new StringBuilder(term(depth));
        while (random.nextInt(3) == 0) {
            s.append(random.nextBoolean() ? "&" : "|").append(term(depth));
        }
        return s.toString();
    }

    private void rule(String run) {
        String text = spoil(either(random.nextInt(3) == 0 ? 12 : 4));
        if (text.length() > 300) {
            return;
        }
        put(run, text);
        due(run + "rule() of '" + text + "'", x.rule(), y.rule());
        faults(run + "behind '" + text + "' ");
        judges(run + "by '" + text + "' ");
    }

    private void judges(String run) {
        for (int i = 0; i < 3; i++) {
            int p = who();
            int day = near(0, 999);
            due(run + "may(" + p + ", " + day + ")", x.may(p, day), y.may(p, day));
        }
        int p = who();
        due(run + "contest(" + p + ")", x.contest(p), y.contest(p));
    }

    private void details(String run) {
        int k = which();
        for (int i = 0; i < 6; i++) {
            int what = random.nextInt(3) == 0 ? near(0, 5) : random.nextBoolean() ? near(10, 20) : near(100, 200);
            due(run + "piece(" + k + ", " + what + ")", x.piece(k, what), y.piece(k, what));
        }
    }

    private void covers(String run) {
        int k = which();
        due(run + "playable(" + k + ")", x.playable(k), y.playable(k));
        due(run + "lacks(" + k + ")", x.lacks(k), y.lacks(k));
        due(run + "count(3)", x.count(3), y.count(3));
    }

    private void seats(String run) {
        int k = which();
        if (random.nextInt(3) == 0) {
            due(run + "seat(" + k + ")", x.seat(k), y.seat(k));
        } else {
            due(run + "again(" + k + ")", x.again(k), y.again(k));
        }
        for (int i = -1; i <= 10; i++) {
            Check.due(run + "chair(" + k + ", " + i + ")", x.chair(k, i), y.chair(k, i));
        }
        due(run + "seating(" + k + ", 0)", x.seating(k, 0), y.seating(k, 0));
    }

    private void hands(String run) {
        int k = which();
        int i = near(0, k >= 0 && k < y.pieces.size() ? y.pieces.get(k).parts.size() - 1 : 0);
        int p = random.nextInt(5) == 0 ? -1 : who();
        due(run + "sit(" + k + ", " + i + ", " + p + ")", x.sit(k, i, p) ? 1 : 0, y.sit(k, i, p) ? 1 : 0);
        due(run + "chair(" + k + ", " + i + ")", x.chair(k, i), y.chair(k, i));
        int what = near(0, 2);
        due(run + "seating(" + k + ", " + what + ")", x.seating(k, what), y.seating(k, what));
    }

    private void programmes(String run) {
        if (y.pieces.size() > 8 && random.nextInt(6) > 0) {
            return;
        }
        int minutes = near(0, random.nextBoolean() ? 600 : random.nextBoolean() ? 100 : 25);
        int lips = near(0, 18);
        due(run + "programme(" + minutes + ", " + lips + ")", x.programme(minutes, lips), y.programme(minutes, lips));
        for (int i = -1; i <= 10; i++) {
            Check.due(run + "plan(" + i + ")", x.plan(i), y.plan(i));
        }
        due(run + "strain()", x.strain(), y.strain());
        due(run + "count(5)", x.count(5), y.count(5));
    }

    private void loans(String run) {
        int copy = near(0, random.nextBoolean() ? 29 : 2);
        int day = near(0, random.nextBoolean() ? 999 : 5);
        int there = near(-2, y.players.size() - 1);
        due(run + "tell(" + copy + ", " + day + ", " + there + ")", x.tell(copy, day, there), y.tell(copy, day, there));
        due(run + "count(4)", x.count(4), y.count(4));
    }

    private void looks(String run) {
        int copy = near(0, random.nextBoolean() ? 29 : 2);
        int day = near(0, random.nextBoolean() ? 999 : 5);
        int n = near(0, y.words.size());
        due(run + "where(" + copy + ", " + day + ", " + n + ")", x.where(copy, day, n), y.where(copy, day, n));
        int there = near(-2, y.players.size() - 1);
        due(run + "copies(" + there + ", " + day + ", " + n + ")", x.copies(there, day, n), y.copies(there, day, n));
        int what = near(0, 5);
        due(run + "count(" + what + ")", x.count(what), y.count(what));
    }

    private void tape(String run) {
        int[] five = new int[5];
        for (int i = 0; i < 5; i++) {
            five[i] = random.nextInt();
        }
        due(run + "feed", x.feed(five[0], five[1], five[2], five[3], five[4]), y.feed(five));
        int n = near(0, y.tape.length());
        due(run + "end(" + n + ")", x.end(n), y.end(n));
        if (random.nextInt(4) == 0) {
            due(run + "load()", x.load(), y.load());
            faults(run);
        }
    }
}
