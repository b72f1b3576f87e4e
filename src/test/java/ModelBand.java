import java.util.ArrayList;
import java.util.Arrays;
import java.util.List;

/** The document once more, as plainly as can be and by other ways than TownBand's, to compare with. */
final class ModelBand {
    static final class Part {
        boolean must;
        final List<Integer> instruments = new ArrayList<>();
    }

    static final class Piece {
        String name;
        int[] figures = new int[3];
        final List<Part> parts = new ArrayList<>();
        int[] chairs = new int[0];
    }

    static final class Player {
        int age;
        int joined;
        int past;
        boolean here;
        final int[] costs = new int[10];
    }

    record Token(String text, int place) {
        boolean is(String pattern) {
            return text.matches(pattern);
        }
    }

    static final class Fault extends RuntimeException {
        private static final long serialVersionUID = 1L;
        final int kind;
        final int place;

        Fault(int kind, int place) {
            this.kind = kind;
            this.place = place;
        }
    }

    final List<Player> players = new ArrayList<>();
    final List<int[]> words = new ArrayList<>();
    List<Piece> pieces = new ArrayList<>();
    List<Integer> programme = new ArrayList<>();
    String tape = "";
    List<Token> rule;
    int faultKind;
    int faultPlace = -1;

    private boolean no(int p) {
        return p < 0 || p >= players.size();
    }

    private boolean noPiece(int k) {
        return k < 0 || k >= pieces.size();
    }

    private static boolean noDay(int day) {
        return day < 0 || day > 999;
    }

    int player(int age, int joined) {
        if (age < 0 || age > 99 || noDay(joined) || players.size() == 14) {
            return -1;
        }
        Player p = new Player();
        p.age = age;
        p.joined = joined;
        Arrays.fill(p.costs, -1);
        players.add(p);
        return players.size() - 1;
    }

    boolean plays(int p, int i, int c) {
        if (no(p) || i < 0 || i > 9 || c < -1 || c > 9) {
            return false;
        }
        players.get(p).costs[i] = c;
        return true;
    }

    int cost(int p, int i) {
        return no(p) || i < 0 || i > 9 ? -1 : players.get(p).costs[i];
    }

    boolean here(int p, boolean is) {
        if (no(p)) {
            return false;
        }
        players.get(p).here = is;
        return true;
    }

    int feed(int[] five) {
        if (tape.length() > 780) {
            return -1;
        }
        StringBuilder s = new StringBuilder(tape);
        for (int x : five) {
            s.append((char) (x >>> 24)).append((char) (x >> 16 & 255)).append((char) (x >> 8 & 255)).append((char) (x & 255));
        }
        tape = s.toString();
        return tape.length();
    }

    int end(int n) {
        if (n < 0 || n > tape.length()) {
            return -1;
        }
        tape = tape.substring(0, n);
        return n;
    }

    private static List<Token> tokens(String text) {
        List<Token> all = new ArrayList<>();
        java.util.regex.Matcher m = java.util.regex.Pattern.compile("[a-z]+|[0-9]+|[^ \n]", java.util.regex.Pattern.DOTALL).matcher(text);
        while (m.find()) {
            all.add(new Token(m.group(), m.start()));
        }
        all.add(new Token("", text.length()));
        return all;
    }

    int load() {
        List<Token> all = tokens(tape);
        tape = "";
        faultKind = 0;
        faultPlace = -1;
        try {
            pieces = readPieces(all);
            return pieces.size();
        } catch (Fault f) {
            faultKind = f.kind;
            faultPlace = f.place;
            return -1;
        }
    }

    private static void want(Token t, String pattern) {
        if (!t.is(pattern)) {
            throw new Fault(1, t.place);
        }
    }

    // States: 0 piece or end, 1 name, 2 colon, 3 .. 5 figures, 6 behind them, 7 must or may, 8 instrument, 9 behind it.
    private List<Piece> readPieces(List<Token> all) {
        List<Piece> now = new ArrayList<>(pieces);
        int state = 0;
        for (Token t : all) {
            Piece piece = now.isEmpty() ? null : now.get(now.size() - 1);
            switch (state) {
                case 0 -> {
                    want(t, "piece|");
                    if (t.is("")) {
                        return now;
                    }
                    if (now.size() == 10) {
                        throw new Fault(4, t.place);
                    }
                    now.add(new Piece());
                    state = 1;
                }
                case 1 -> {
                    want(t, "(?!(piece|must|may|or)$)[a-z]{1,6}");
                    for (Piece other : now) {
                        if (t.text.equals(other.name)) {
                            throw new Fault(2, t.place);
                        }
                    }
                    piece.name = t.text;
                    state = 2;
                }
                case 2 -> {
                    want(t, ":");
                    state = 3;
                }
                case 3, 4, 5 -> {
                    want(t, "[0-9]{1,2}");
                    int x = Integer.parseInt(t.text);
                    if (x < new int[] {1, 0, 0}[state - 3] || x > new int[] {60, 9, 11}[state - 3]) {
                        throw new Fault(3, t.place);
                    }
                    piece.figures[state - 3] = x;
                    state++;
                }
                case 7 -> {
                    want(t, "must|may");
                    Part part = new Part();
                    part.must = t.is("must");
                    piece.parts.add(part);
                    state = 8;
                }
                case 8 -> {
                    want(t, "[0-9]{1,2}");
                    int x = Integer.parseInt(t.text);
                    Part part = piece.parts.get(piece.parts.size() - 1);
                    if (x > 9 || part.instruments.contains(x)) {
                        throw new Fault(3, t.place);
                    }
                    part.instruments.add(x);
                    state = 9;
                }
                default -> {
                    want(t, state == 9 ? "[,;]|or" : "[,;]");
                    if (t.is("or") && piece.parts.get(piece.parts.size() - 1).instruments.size() == 4) {
                        throw new Fault(4, t.place);
                    }
                    if (t.is(",") && piece.parts.size() == 10) {
                        throw new Fault(4, t.place);
                    }
                    state = t.is("or") ? 8 : t.is(",") ? 7 : 0;
                    if (t.is(";")) {
                        piece.chairs = new int[piece.parts.size()];
                        Arrays.fill(piece.chairs, -1);
                    }
                }
            }
        }
        throw new IllegalStateException();
    }

    int rule() {
        List<Token> all = tokens(tape);
        tape = "";
        faultKind = 0;
        faultPlace = -1;
        try {
            checkRule(all);
            rule = all;
            return all.size() - 1;
        } catch (Fault f) {
            faultKind = f.kind;
            faultPlace = f.place;
            return -1;
        }
    }

    // Open ones are kept on a stack: a comparison's end closes the !s on top, a ) its ( and the !s below it.
    // States: 0 an N begins, 1 a V of its left sum, 2 behind that, 3 a V of its right sum, 4 behind that, 5 behind a ).
    private static void checkRule(List<Token> all) {
        StringBuilder open = new StringBuilder();
        int state = 0;
        for (Token t : all) {
            if (state == 0 && t.is("[!(]")) {
                if (open.length() == 8) {
                    throw new Fault(4, t.place);
                }
                open.append(t.text);
            } else if (state == 0 || state == 1 || state == 3) {
                want(t, "[0-9]{1,4}|age|days|past|out|day");
                state = state == 3 ? 4 : 2;
            } else if (state == 2) {
                want(t, "[-+<=>]");
                state = t.is("[-+]") ? 1 : 3;
            } else if (state == 4 && t.is("[-+]")) {
                state = 3;
            } else {
                while (open.length() > 0 && open.charAt(open.length() - 1) == '!') {
                    open.setLength(open.length() - 1);
                }
                want(t, open.length() > 0 ? "[|&)]" : "[|&]|");
                if (t.is("[)]")) {
                    open.setLength(open.length() - 1);
                }
                state = t.is("[)]") ? 5 : 0;
            }
        }
    }

    private int at;

    int may(int p, int day) {
        if (no(p) || noDay(day)) {
            return -1;
        }
        if (rule == null) {
            return 1;
        }
        at = 0;
        return either(players.get(p), p, day) ? 1 : 0;
    }

    private boolean either(Player who, int p, int day) {
        boolean any = both(who, p, day);
        while (rule.get(at).is("[|]")) {
            at++;
            any |= both(who, p, day);
        }
        return any;
    }

    private boolean both(Player who, int p, int day) {
        boolean all = one(who, p, day);
        while (rule.get(at).is("&")) {
            at++;
            all &= one(who, p, day);
        }
        return all;
    }

    private boolean one(Player who, int p, int day) {
        if (rule.get(at).is("!")) {
            at++;
            return !one(who, p, day);
        }
        if (rule.get(at).is("[(]")) {
            at++;
            boolean inner = either(who, p, day);
            at++;
            return inner;
        }
        long left = sum(who, p, day);
        String sign = rule.get(at++).text;
        long right = sum(who, p, day);
        return sign.equals("<") ? left < right : sign.equals("=") ? left == right : left > right;
    }

    private long sum(Player who, int p, int day) {
        long total = value(rule.get(at++).text, who, p, day);
        while (rule.get(at).is("[-+]")) {
            long sign = rule.get(at++).is("[+]") ? 1 : -1;
            total += sign * value(rule.get(at++).text, who, p, day);
        }
        return total;
    }

    private long value(String text, Player who, int p, int day) {
        return switch (text) {
            case "age" -> who.age;
            case "days" -> day - who.joined;
            case "past" -> who.past;
            case "out" -> copies(p, day, words.size());
            case "day" -> day;
            default -> Integer.parseInt(text);
        };
    }

    int fault(int what) {
        return what == 0 ? faultKind : what == 1 ? faultPlace : -1;
    }

    int piece(int k, int what) {
        if (noPiece(k)) {
            return -1;
        }
        Piece piece = pieces.get(k);
        if (what >= 0 && what <= 2) {
            return piece.figures[what];
        }
        if (what == 3) {
            return piece.parts.size();
        }
        if (what == 4) {
            return must(piece);
        }
        for (int i = 0; i < piece.parts.size(); i++) {
            List<Integer> instruments = piece.parts.get(i).instruments;
            if (what == 10 + i) {
                return instruments.size();
            }
            for (int j = 0; j < instruments.size(); j++) {
                if (what == 100 + 10 * i + j) {
                    return instruments.get(j);
                }
            }
        }
        return -1;
    }

    private static int must(Piece piece) {
        int set = 0;
        for (int i = 0; i < piece.parts.size(); i++) {
            set += piece.parts.get(i).must ? 1 << i : 0;
        }
        return set;
    }

    private int partCost(Part part, Player p) {
        return part.instruments.stream().mapToInt(i -> p.costs[i]).filter(c -> c >= 0).min().orElse(-1);
    }

    private int lacking(Piece piece) {
        int n = piece.parts.size();
        for (int size = 1; size <= n; size++) {
            for (int set = 1; set < 1 << n; set++) {
                if (Integer.bitCount(set) != size || (set & must(piece)) != set) {
                    continue;
                }
                int able = 0;
                for (Player p : players) {
                    boolean can = false;
                    for (int i = 0; i < n; i++) {
                        can |= (set >> i & 1) == 1 && partCost(piece.parts.get(i), p) >= 0;
                    }
                    able += can && p.here ? 1 : 0;
                }
                if (size > able) {
                    return set;
                }
            }
        }
        return 0;
    }

    private long[][] memo;

    // The least badness of parts i .. with the players in used taken: changes, or parts without a player and then cost.
    private long least(Piece piece, int i, int used, boolean again) {
        if (i == piece.parts.size()) {
            return 0;
        }
        if (memo[i][used] >= 0) {
            return memo[i][used];
        }
        long best = Long.MAX_VALUE / 4;
        for (int p = 0; p <= players.size(); p++) {
            long b = badness(piece, i, p, used, again);
            if (b < best) {
                best = Math.min(best, b + least(piece, i + 1, p == players.size() ? used : used | 1 << p, again));
            }
        }
        return memo[i][used] = best;
    }

    private long badness(Piece piece, int i, int p, int used, boolean again) {
        Part part = piece.parts.get(i);
        if (p == players.size()) {
            if (part.must) {
                return Long.MAX_VALUE / 8;
            }
            return again ? (piece.chairs[i] == -1 ? 0 : 1) : 1000;
        }
        Player who = players.get(p);
        int price = partCost(part, who);
        if (!who.here || price < 0 || (used >> p & 1) == 1) {
            return Long.MAX_VALUE / 8;
        }
        return again ? (piece.chairs[i] == p ? 0 : 1) : price;
    }

    // The answer of seat, or of again; -1 if the must parts can't be covered.
    private int reseat(Piece piece, boolean again) {
        memo = new long[piece.parts.size()][1 << players.size()];
        for (long[] row : memo) {
            Arrays.fill(row, -1);
        }
        if (least(piece, 0, 0, again) >= 100000) {
            return -1;
        }
        int[] chairs = new int[piece.parts.size()];
        int used = 0;
        for (int i = 0; i < chairs.length; i++) {
            for (int p = 0; p <= players.size(); p++) {
                int then = p == players.size() ? used : used | 1 << p;
                long b = badness(piece, i, p, used, again);
                if (b < 100000 && b + least(piece, i + 1, then, again) == least(piece, i, used, again)) {
                    chairs[i] = p == players.size() ? -1 : p;
                    used = then;
                    break;
                }
            }
        }
        int changed = 0;
        for (int i = 0; i < chairs.length; i++) {
            changed += chairs[i] == piece.chairs[i] ? 0 : 1;
        }
        piece.chairs = chairs;
        return again ? changed : Integer.bitCount(used);
    }

    int playable(int k) {
        return noPiece(k) ? -1 : lacking(pieces.get(k)) == 0 ? 1 : 0;
    }

    int lacks(int k) {
        return noPiece(k) ? -1 : lacking(pieces.get(k));
    }

    int seat(int k) {
        return noPiece(k) ? -1 : reseat(pieces.get(k), false);
    }

    int again(int k) {
        return noPiece(k) ? -1 : reseat(pieces.get(k), true);
    }

    int chair(int k, int i) {
        return noPiece(k) || i < 0 || i >= pieces.get(k).chairs.length ? -1 : pieces.get(k).chairs[i];
    }

    boolean sit(int k, int i, int p) {
        if (noPiece(k) || i < 0 || i >= pieces.get(k).chairs.length || p != -1 && no(p)) {
            return false;
        }
        Piece piece = pieces.get(k);
        if (p != -1) {
            if (partCost(piece.parts.get(i), players.get(p)) < 0) {
                return false;
            }
            for (int j = 0; j < piece.chairs.length; j++) {
                if (j != i && piece.chairs[j] == p) {
                    return false;
                }
            }
        }
        piece.chairs[i] = p;
        return true;
    }

    int seating(int k, int what) {
        if (noPiece(k) || what < 0 || what > 2) {
            return -1;
        }
        int[] sums = new int[3];
        for (int i = 0; i < pieces.get(k).chairs.length; i++) {
            int p = pieces.get(k).chairs[i];
            if (p != -1) {
                sums[0] += Math.max(0, partCost(pieces.get(k).parts.get(i), players.get(p)));
                sums[1]++;
                sums[2] += players.get(p).here ? 0 : 1;
            }
        }
        return sums[what];
    }

    private int bestMinutes;
    private int bestStrain;

    int programme(int minutes, int lips) {
        if (minutes < 0 || minutes > 600 || lips < 0 || lips > 18) {
            return -1;
        }
        boolean[] can = new boolean[pieces.size()];
        for (int k = 0; k < can.length; k++) {
            can[k] = lacking(pieces.get(k)) == 0;
        }
        bestMinutes = 0;
        bestStrain = 0;
        programme = new ArrayList<>();
        extend(new ArrayList<>(), can, new int[] {minutes, lips, 0, 0});
        return bestMinutes;
    }

    // Rows come in their order, so only a better one replaces what was found. f: limits, minutes, strain.
    private void extend(List<Integer> row, boolean[] can, int[] f) {
        if (f[2] > bestMinutes || f[2] == bestMinutes && f[3] < bestStrain) {
            bestMinutes = f[2];
            bestStrain = f[3];
            programme = new ArrayList<>(row);
        }
        for (int k = 0; k < can.length; k++) {
            int[] me = pieces.get(k).figures;
            if (!can[k] || row.contains(k) || f[2] + me[0] > f[0]) {
                continue;
            }
            int strain = f[3];
            if (!row.isEmpty()) {
                int[] before = pieces.get(row.get(row.size() - 1)).figures;
                if (before[1] + me[1] > f[1]) {
                    continue;
                }
                strain += Math.min(Math.floorMod(before[2] - me[2], 12), Math.floorMod(me[2] - before[2], 12));
            }
            row.add(k);
            extend(row, can, new int[] {f[0], f[1], f[2] + me[0], strain});
            row.remove(row.size() - 1);
        }
    }

    int plan(int i) {
        return i < 0 || i >= programme.size() ? -1 : programme.get(i);
    }

    int strain() {
        int sum = 0;
        for (int i = 1; i < programme.size(); i++) {
            int apart = pieces.get(programme.get(i)).figures[2] - pieces.get(programme.get(i - 1)).figures[2];
            sum += Math.min(Math.floorMod(apart, 12), Math.floorMod(-apart, 12));
        }
        return sum;
    }

    private boolean noPlace(int there) {
        return there < -2 || there >= players.size();
    }

    int tell(int copy, int day, int there) {
        if (copy < 0 || copy > 29 || noDay(day) || noPlace(there) || words.size() == 200) {
            return -1;
        }
        words.add(new int[] {copy, day, there});
        return words.size() - 1;
    }

    int where(int copy, int day, int n) {
        if (copy < 0 || copy > 29 || noDay(day) || n < 0 || n > words.size()) {
            return -3;
        }
        for (int d = day; d >= 0; d--) {
            for (int w = n - 1; w >= 0; w--) {
                if (words.get(w)[0] == copy && words.get(w)[1] == d) {
                    return words.get(w)[2];
                }
            }
        }
        return -1;
    }

    int copies(int there, int day, int n) {
        if (noPlace(there) || noDay(day) || n < 0 || n > words.size()) {
            return -1;
        }
        int sum = 0;
        for (int c = 0; c < 30; c++) {
            sum += where(c, day, n) == there ? 1 : 0;
        }
        return sum;
    }

    int contest(int p) {
        return no(p) || players.get(p).past == 1000 ? -1 : ++players.get(p).past;
    }

    int count(int what) {
        return switch (what) {
            case 0 -> players.size();
            case 1 -> (int) players.stream().filter(p -> p.here).count();
            case 2 -> pieces.size();
            case 3 -> (int) pieces.stream().filter(piece -> lacking(piece) == 0).count();
            case 4 -> words.size();
            case 5 -> programme.size();
            default -> -1;
        };
    }
}
