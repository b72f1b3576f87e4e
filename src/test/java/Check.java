import java.nio.charset.StandardCharsets;

/** What the tests share: a count of wrong answers, and texts put on the tape. */
final class Check {
    private static int wrong = 0;
    private static int asked = 0;

    private Check() {
    }

    static void due(String call, long got, long want) {
        asked++;
        if (got != want) {
            wrong++;
            System.out.println(call + " answered " + got + ", due is " + want);
        }
    }

    static void due(String call, boolean got, boolean want) {
        due(call, got ? 1 : 0, want ? 1 : 0);
    }

    static void end(String name) {
        System.out.println(name + ": " + asked + " answers, " + wrong + " wrong");
        if (wrong != 0) {
            System.exit(1);
        }
    }

    static int[] words(byte[] bytes, int from) {
        int[] five = new int[5];
        for (int i = 0; i < 20; i++) {
            int b = from + i < bytes.length ? bytes[from + i] & 255 : 0;
            five[i / 4] = five[i / 4] << 8 | b;
        }
        return five;
    }

    static void put(TownBand x, String text) {
        byte[] bytes = text.getBytes(StandardCharsets.ISO_8859_1);
        for (int from = 0; from < bytes.length; from += 20) {
            int[] w = words(bytes, from);
            x.feed(w[0], w[1], w[2], w[3], w[4]);
        }
        x.end(bytes.length);
    }

    static int load(TownBand x, String text) {
        put(x, text);
        return x.load();
    }

    static int rule(TownBand x, String text) {
        put(x, text);
        return x.rule();
    }

    static void fault(TownBand x, String text, boolean asRule, int kind, int place) {
        int got = asRule ? rule(x, text) : load(x, text);
        due("read of '" + text + "'", got, -1);
        due("fault(0) of '" + text + "'", x.fault(0), kind);
        due("fault(1) of '" + text + "'", x.fault(1), place);
        due("tape behind '" + text + "'", x.end(1), -1);
    }

    /** Players 0 .. n - 1, all HERE, playing nothing. */
    static TownBand band(int n) {
        TownBand x = new TownBand();
        for (int p = 0; p < n; p++) {
            x.player(30, 0);
            x.here(p, true);
        }
        return x;
    }
}
