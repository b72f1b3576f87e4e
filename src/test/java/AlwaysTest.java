import java.util.ArrayList;
import java.util.Arrays;
import java.util.List;
import java.util.Random;

/**
 * WHAT ALWAYS HOLDS, a sentence at a time, on small desks drawn with fixed seeds: all SEATINGS, sets of PARTS and
 * PROGRAMMES are gone through in the document's order, so that only a better one replaces what was found.
 */
public final class AlwaysTest {
    private static final int DESKS = 1500;
    private static final int INSTRUMENTS = 4;

    private final Random random;
    private final String desk;
    private TownBand x = new TownBand();
    private int players;
    private int parts;
    private boolean[] here;
    private boolean[] must;
    /** By part and player: the least cost, or -1. */
    private int[][] costs;
    private int[] before;
    private List<int[]> seatings;

    private AlwaysTest(int seed) {
        random = new Random(seed);
        desk = "desk " + seed + ": ";
    }

    public static void main(String[] args) {
        for (int seed = 0; seed < DESKS; seed++) {
            AlwaysTest t = new AlwaysTest(seed);
            t.drawDesk();
            t.playableJustIfCovered();
            t.lacksOnlyElse();
            t.againChangesTheFewest();
            t.seatHasMostPartsLeastCostFirst();
            new AlwaysTest(seed).programmeIsLongestLeastStrainFirst();
            new AlwaysTest(seed).laterWordsChangeNothing();
        }
        Check.end("AlwaysTest");
    }

    private void drawDesk() {
        players = random.nextInt(6);
        parts = random.nextInt(6);
        here = new boolean[players];
        must = new boolean[parts];
        costs = new int[parts][players];
        int[][] plays = new int[players][INSTRUMENTS];
        for (int p = 0; p < players; p++) {
            x.player(random.nextInt(100), random.nextInt(1000));
            here[p] = random.nextInt(5) > 0;
            x.here(p, here[p]);
            for (int i = 0; i < INSTRUMENTS; i++) {
                plays[p][i] = random.nextInt(2) == 0 ? -1 : random.nextInt(random.nextBoolean() ? 3 : 10);
                x.plays(p, i, plays[p][i]);
            }
        }
        StringBuilder text = new StringBuilder("piece a:1 1 1");
        for (int i = 0; i < parts; i++) {
            must[i] = random.nextInt(3) == 0;
            drawPart(text, i, plays);
        }
        Check.due(desk + "load", Check.load(x, text.append(";").toString()), 1);
        sitDown();
        seatings = new ArrayList<>();
        allSeatings(new int[parts], 0);
    }

    private void drawPart(StringBuilder text, int part, int[][] plays) {
        Arrays.fill(costs[part], -1);
        text.append(must[part] ? ",must " : ",may ");
        int first = random.nextInt(INSTRUMENTS);
        int choices = 1 + random.nextInt(2);
        for (int j = 0; j < choices; j++) {
            int instrument = (first + j) % INSTRUMENTS;
            text.append(j == 0 ? "" : " or ").append(instrument);
            for (int p = 0; p < players; p++) {
                int c = plays[p][instrument];
                if (c >= 0 && (costs[part][p] < 0 || c < costs[part][p])) {
                    costs[part][p] = c;
                }
            }
        }
    }

    // Whoever sits down by hand may be away: a seating from another evening.
    private void sitDown() {
        before = new int[parts];
        Arrays.fill(before, -1);
        for (int i = 0; i < 2 * parts && players > 0; i++) {
            int part = random.nextInt(parts);
            int p = random.nextInt(players);
            boolean free = costs[part][p] >= 0;
            for (int j = 0; j < parts; j++) {
                free &= j == part || before[j] != p;
            }
            Check.due(desk + "sit(0, " + part + ", " + p + ")", x.sit(0, part, p), free);
            before[part] = free ? p : before[part];
        }
    }

    // Of players here, in the document's order: the lesser player first, none last.
    private void allSeatings(int[] row, int part) {
        if (part == parts) {
            seatings.add(row.clone());
            return;
        }
        for (int p = 0; p < players; p++) {
            boolean free = here[p] && costs[part][p] >= 0;
            for (int j = 0; j < part; j++) {
                free &= row[j] != p;
            }
            if (free) {
                row[part] = p;
                allSeatings(row, part + 1);
            }
        }
        row[part] = -1;
        allSeatings(row, part + 1);
    }

    private boolean hasMust(int[] seating) {
        for (int i = 0; i < parts; i++) {
            if (must[i] && seating[i] < 0) {
                return false;
            }
        }
        return true;
    }

    private boolean covered() {
        return seatings.stream().anyMatch(this::hasMust);
    }

    private void playableJustIfCovered() {
        Check.due(desk + "playable(0)", x.playable(0), covered() ? 1 : 0);
        Check.due(desk + "count(3)", x.count(3), covered() ? 1 : 0);
    }

    private int able(int set) {
        int able = 0;
        for (int p = 0; p < players; p++) {
            boolean can = false;
            for (int i = 0; i < parts; i++) {
                can |= (set >> i & 1) == 1 && here[p] && costs[i][p] >= 0;
            }
            able += can ? 1 : 0;
        }
        return able;
    }

    private void lacksOnlyElse() {
        int least = 0;
        for (int set = 1; set < 1 << parts; set++) {
            boolean shows = Integer.bitCount(set) > able(set);
            for (int i = 0; i < parts; i++) {
                shows &= must[i] || (set >> i & 1) == 0;
            }
            if (shows && (least == 0 || Integer.bitCount(set) < Integer.bitCount(least))) {
                least = set;
            }
        }
        Check.due(desk + "a set just if not playable", least == 0, covered());
        Check.due(desk + "lacks(0)", x.lacks(0), least);
    }

    private int changes(int[] seating) {
        int sum = 0;
        for (int i = 0; i < parts; i++) {
            sum += seating[i] == before[i] ? 0 : 1;
        }
        return sum;
    }

    private int seated(int[] seating) {
        int sum = 0;
        for (int p : seating) {
            sum += p < 0 ? 0 : 1;
        }
        return sum;
    }

    private int costOf(int[] seating) {
        int sum = 0;
        for (int i = 0; i < parts; i++) {
            sum += seating[i] < 0 ? 0 : costs[i][seating[i]];
        }
        return sum;
    }

    private void againChangesTheFewest() {
        int[] best = null;
        for (int[] s : seatings) {
            if (hasMust(s) && (best == null || changes(s) < changes(best))) {
                best = s;
            }
        }
        Check.due(desk + "again(0)", x.again(0), best == null ? -1 : changes(best));
        seatingIs("again(0)", best == null ? before : best);
        Check.due(desk + "again(0) once more", x.again(0), best == null ? -1 : 0);
    }

    private void seatHasMostPartsLeastCostFirst() {
        int[] best = null;
        for (int[] s : seatings) {
            if (hasMust(s) && (best == null || seated(s) > seated(best)
                    || seated(s) == seated(best) && costOf(s) < costOf(best))) {
                best = s;
            }
        }
        Check.due(desk + "seat(0)", x.seat(0), best == null ? -1 : seated(best));
        seatingIs("seat(0)", best == null ? before : best);
        Check.due(desk + "again(0) behind seat(0)", x.again(0), best == null ? -1 : 0);
    }

    private void seatingIs(String call, int[] want) {
        int away = 0;
        for (int i = 0; i < parts; i++) {
            Check.due(desk + call + ": chair(0, " + i + ")", x.chair(0, i), want[i]);
            away += want[i] >= 0 && !here[want[i]] ? 1 : 0;
        }
        Check.due(desk + call + ": seating(0, 0)", x.seating(0, 0), costOf(want));
        Check.due(desk + call + ": seating(0, 1)", x.seating(0, 1), seated(want));
        Check.due(desk + call + ": seating(0, 2)", x.seating(0, 2), away);
    }

    private List<Integer> best;
    private int bestMinutes;
    private int bestStrain;
    private int[][] figures;

    // Piece k must have instrument k, which the one player plays if the piece is to be playable.
    private void programmeIsLongestLeastStrainFirst() {
        x.player(1, 1);
        x.here(0, true);
        int n = random.nextInt(6);
        figures = new int[n][4];
        StringBuilder text = new StringBuilder();
        for (int k = 0; k < n; k++) {
            int[] f = {1 + random.nextInt(random.nextBoolean() ? 4 : 60), random.nextInt(10), random.nextInt(12), random.nextInt(4)};
            figures[k] = f;
            x.plays(0, k, f[3] == 0 ? -1 : 0);
            text.append("piece ").append((char) ('a' + k)).append(":").append(f[0]).append(" ").append(f[1]).append(" ");
            text.append(f[2]).append(",must ").append(k).append(";");
        }
        Check.due(desk + "load", Check.load(x, text.toString()), n);
        for (int i = 0; i < 3; i++) {
            int minutes = random.nextInt(i == 0 ? 601 : i == 1 ? 100 : 16);
            int lips = random.nextInt(19);
            best = List.of();
            bestMinutes = 0;
            bestStrain = 0;
            allRows(new ArrayList<>(), minutes, lips);
            String call = desk + "programme(" + minutes + ", " + lips + ")";
            Check.due(call, x.programme(minutes, lips), bestMinutes);
            Check.due(call + ": strain()", x.strain(), bestStrain);
            Edge.plan(call, x, best.stream().mapToInt(k -> k).toArray());
        }
    }

    private void allRows(List<Integer> row, int minutes, int lips) {
        int sum = 0;
        int strain = 0;
        for (int i = 0; i < row.size(); i++) {
            int[] f = figures[row.get(i)];
            sum += f[0];
            if (i > 0) {
                int[] g = figures[row.get(i - 1)];
                int apart = Math.abs(f[2] - g[2]);
                strain += apart > 6 ? 12 - apart : apart;
                if (f[1] + g[1] > lips) {
                    return;
                }
            }
        }
        if (sum <= minutes && (sum > bestMinutes || sum == bestMinutes && strain < bestStrain)) {
            best = List.copyOf(row);
            bestMinutes = sum;
            bestStrain = strain;
        }
        for (int k = 0; k < figures.length; k++) {
            if (figures[k][3] > 0 && !row.contains(k)) {
                row.add(k);
                allRows(row, minutes, lips);
                row.remove(row.size() - 1);
            }
        }
    }

    private void laterWordsChangeNothing() {
        x.player(1, 1);
        x.player(1, 1);
        List<int[]> asked = new ArrayList<>();
        for (int w = 0; w < 20; w++) {
            Check.due(desk + "tell", x.tell(random.nextInt(3), random.nextInt(6), random.nextInt(4) - 2), w);
            int copy = random.nextInt(3);
            int day = random.nextInt(7);
            int there = random.nextInt(4) - 2;
            asked.add(new int[] {copy, day, w + 1, there, x.where(copy, day, w + 1), x.copies(there, day, w + 1)});
        }
        for (int[] a : asked) {
            String by = ", " + a[1] + ", " + a[2] + ") when more was told";
            Check.due(desk + "where(" + a[0] + by, x.where(a[0], a[1], a[2]), a[4]);
            Check.due(desk + "copies(" + a[3] + by, x.copies(a[3], a[1], a[2]), a[5]);
        }
    }
}
