import java.util.Arrays;

/**
 * A town band's desk: players, a library of pieces read from a text, seatings, programmes,
 * lent music and a contest's rule. The document's words in capitals are kept in the comments.
 */
public final class TownBand {
    public static final int NONE = -1;

    private static final int MOST_PLAYERS = 14;
    private static final int INSTRUMENTS = 10;
    private static final int MOST_PIECES = 10;
    private static final int MOST_PARTS = 10;
    private static final int MOST_CHOICES = 4;
    private static final int PART_SETS = 1 << MOST_PARTS;
    private static final int COPIES = 30;
    private static final int MOST_WORDS = 200;
    private static final int MOST_CONTESTS = 1000;
    private static final int TAPE_BYTES = 800;
    private static final int FEED_BYTES = 20;
    private static final int SHELF = -1;
    private static final int LOST = -2;
    private static final int NOWHERE = NONE - 2;

    private static final int FAULT_STANDS = 1;
    private static final int FAULT_TWICE = 2;
    private static final int FAULT_NUMBER = 3;
    private static final int FAULT_TOO_MANY = 4;

    private final Players players = new Players();
    private final Library library = new Library();
    private final Tape tape = new Tape();
    private final Rule contestRule = new Rule();
    private final Loans loans = new Loans();
    private final Cover cover = new Cover();
    private final Seater seater = new Seater();
    private final Planner planner = new Planner();

    public TownBand() {
    }

    public int player(int age, int joined) {
        if (!isWithin(age, 0, 99) || !isDay(joined)) {
            return NONE;
        }
        return players.join(age, joined);
    }

    public boolean plays(int p, int instrument, int cost) {
        if (!players.has(p) || !isInstrument(instrument) || !isWithin(cost, NONE, 9)) {
            return false;
        }
        players.learn(p, instrument, cost);
        return true;
    }

    public int cost(int p, int instrument) {
        if (!players.has(p) || !isInstrument(instrument)) {
            return NONE;
        }
        return players.costOf(p, instrument);
    }

    public boolean here(int p, boolean is) {
        if (!players.has(p)) {
            return false;
        }
        players.mark(p, is);
        return true;
    }

    public int feed(int a, int b, int c, int d, int e) {
        if (!tape.hasRoom()) {
            return NONE;
        }
        tape.append(a);
        tape.append(b);
        tape.append(c);
        tape.append(d);
        tape.append(e);
        return tape.length;
    }

    public int end(int n) {
        if (!isWithin(n, 0, tape.length)) {
            return NONE;
        }
        tape.length = n;
        return n;
    }

    public int load() {
        return library.readText(tape) ? library.size : NONE;
    }

    public int rule() {
        contestRule.beginDraft();
        tape.begin(4);
        contestRule.readEither(tape, 0);
        if (!tape.finish()) {
            return NONE;
        }
        contestRule.adoptDraft();
        return tape.tokens;
    }

    public int fault(int what) {
        switch (what) {
            case 0: return tape.faultKind;
            case 1: return tape.faultPlace;
            default: return NONE;
        }
    }

    public int piece(int k, int what) {
        Piece found = library.find(k);
        return found == null ? NONE : found.detail(what);
    }

    public int playable(int k) {
        Piece found = library.find(k);
        if (found == null) {
            return NONE;
        }
        return cover.coversMust(found, players) ? 1 : 0;
    }

    public int lacks(int k) {
        Piece found = library.find(k);
        return found == null ? NONE : cover.leastLack(found, players);
    }

    public int seat(int k) {
        Piece found = library.find(k);
        if (found == null || !cover.coversMust(found, players)) {
            return NONE;
        }
        seater.seatAnew(found, players);
        return found.seated();
    }

    public int again(int k) {
        Piece found = library.find(k);
        if (found == null || !cover.coversMust(found, players)) {
            return NONE;
        }
        return seater.seatWithFewestChanges(found, players);
    }

    public int chair(int k, int i) {
        Piece found = library.find(k);
        if (found == null || !found.hasPart(i)) {
            return NONE;
        }
        return found.chairs[i];
    }

    public boolean sit(int k, int i, int p) {
        Piece found = library.find(k);
        if (found == null || !found.hasPart(i)) {
            return false;
        }
        if (p != NONE) {
            if (!players.has(p) || players.partCost(p, found, i) == NONE || found.seatsElsewhere(p, i)) {
                return false;
            }
        }
        found.chairs[i] = p;
        return true;
    }

    public int seating(int k, int what) {
        Piece found = library.find(k);
        if (found == null) {
            return NONE;
        }
        switch (what) {
            case 0: return players.seatingCost(found);
            case 1: return found.seated();
            case 2: return players.seatedButAway(found);
            default: return NONE;
        }
    }

    public int programme(int minutes, int lips) {
        if (!isWithin(minutes, 0, 600) || !isWithin(lips, 0, 18)) {
            return NONE;
        }
        planner.forgetChoices();
        for (int k = 0; k < library.size; k++) {
            Piece found = library.find(k);
            if (found != null && cover.coversMust(found, players)) {
                planner.offer(k, found);
            }
        }
        return planner.arrange(minutes, lips);
    }

    public int plan(int i) {
        return isWithin(i, 0, planner.planned - 1) ? planner.row[i] : NONE;
    }

    public int strain() {
        return planner.rowStrain;
    }

    public int tell(int copy, int day, int there) {
        if (!isCopy(copy) || !isDay(day) || !isPlace(there)) {
            return NONE;
        }
        return loans.note(copy, day, there);
    }

    public int where(int copy, int day, int n) {
        if (!isCopy(copy) || !isDay(day) || !isWithin(n, 0, loans.size)) {
            return NOWHERE;
        }
        return loans.placeOf(copy, day, n);
    }

    public int copies(int there, int day, int n) {
        if (!isPlace(there) || !isDay(day) || !isWithin(n, 0, loans.size)) {
            return NONE;
        }
        return loans.copiesAt(there, day, n);
    }

    public int contest(int p) {
        return players.has(p) ? players.compete(p) : NONE;
    }

    public int may(int p, int day) {
        if (!players.has(p) || !isDay(day)) {
            return NONE;
        }
        contestRule.setPlayer(players.ages[p], players.contests[p], loans.copiesAt(p, day, loans.size));
        contestRule.setDay(day, day - players.joinedDays[p]);
        return contestRule.allows() ? 1 : 0;
    }

    public int count(int what) {
        switch (what) {
            case 0: return players.size;
            case 1: return Integer.bitCount(players.present);
            case 2: return library.size;
            case 3: return playablePieces();
            case 4: return loans.size;
            case 5: return planner.planned;
            default: return NONE;
        }
    }

    private int playablePieces() {
        int sum = 0;
        for (int k = 0; k < library.size; k++) {
            Piece found = library.find(k);
            if (found != null && cover.coversMust(found, players)) {
                sum++;
            }
        }
        return sum;
    }

    private boolean isPlace(int there) {
        return there == SHELF || there == LOST || players.has(there);
    }

    private static boolean isWithin(int value, int low, int high) {
        return value >= low && value <= high;
    }

    private static boolean isDay(int day) {
        return isWithin(day, 0, 999);
    }

    private static boolean isInstrument(int instrument) {
        return isWithin(instrument, 0, INSTRUMENTS - 1);
    }

    private static boolean isCopy(int copy) {
        return isWithin(copy, 0, COPIES - 1);
    }

    /** Who came, what they play at which COST, and who is HERE (a set of players as bits). */
    private static final class Players {
        private final int[] ages = new int[MOST_PLAYERS];
        private final int[] joinedDays = new int[MOST_PLAYERS];
        private final int[] contests = new int[MOST_PLAYERS];
        private final int[] costs = new int[MOST_PLAYERS * INSTRUMENTS];
        private int size;
        private int present;

        private Players() {
            Arrays.fill(costs, NONE);
        }

        private boolean has(int p) {
            return p >= 0 && p < size;
        }

        private int join(int age, int joined) {
            if (size >= MOST_PLAYERS) {
                return NONE;
            }
            ages[size] = age;
            joinedDays[size] = joined;
            size++;
            return size - 1;
        }

        private void learn(int p, int instrument, int price) {
            costs[p * INSTRUMENTS + instrument] = price;
        }

        private int costOf(int p, int instrument) {
            return costs[p * INSTRUMENTS + instrument];
        }

        private void mark(int p, boolean is) {
            int bit = 1 << p;
            present = is ? present | bit : present & ~bit;
        }

        private boolean isPresent(int p) {
            return (present >> p & 1) != 0;
        }

        private int compete(int p) {
            if (contests[p] >= MOST_CONTESTS) {
                return NONE;
            }
            contests[p]++;
            return contests[p];
        }

        private int partCost(int p, Piece of, int part) {
            int least = NONE;
            for (int j = 0; j < of.choices[part]; j++) {
                int price = costOf(p, of.instrument(part, j));
                if (price != NONE && (least == NONE || price < least)) {
                    least = price;
                }
            }
            return least;
        }

        private int presentFor(Piece of, int part) {
            int able = 0;
            for (int p = 0; p < size; p++) {
                if (isPresent(p) && partCost(p, of, part) != NONE) {
                    able |= 1 << p;
                }
            }
            return able;
        }

        // A player who lost the part's instruments after sitting down has no COST there: nothing is added.
        private int seatingCost(Piece of) {
            int sum = 0;
            for (int i = 0; i < of.parts; i++) {
                int p = of.chairs[i];
                if (has(p)) {
                    sum += Math.max(0, partCost(p, of, i));
                }
            }
            return sum;
        }

        private int seatedButAway(Piece of) {
            int away = 0;
            for (int i = 0; i < of.parts; i++) {
                int p = of.chairs[i];
                if (has(p) && !isPresent(p)) {
                    away++;
                }
            }
            return away;
        }
    }

    /** One PIECE with its PARTS and its SEATING. */
    private static final class Piece {
        private final int[] choices = new int[MOST_PARTS];
        private final int[] instruments = new int[MOST_PARTS * MOST_CHOICES];
        private final int[] chairs = new int[MOST_PARTS];
        private int name;
        private int minutes;
        private int lips;
        private int key;
        private int parts;
        private int mustSet;

        // A slot may hold what a text with a FAULT left there.
        private void clear() {
            parts = 0;
            mustSet = 0;
            Arrays.fill(choices, 0);
            Arrays.fill(chairs, NONE);
        }

        private boolean hasPart(int i) {
            return i >= 0 && i < parts;
        }

        private boolean isMust(int part) {
            return (mustSet >> part & 1) != 0;
        }

        private void addPart(boolean must) {
            if (parts >= MOST_PARTS) {
                return;
            }
            if (must) {
                mustSet |= 1 << parts;
            }
            parts++;
        }

        private int instrument(int part, int j) {
            return instruments[part * MOST_CHOICES + j];
        }

        private boolean hasInstrument(int part, int number) {
            for (int j = 0; j < choices[part]; j++) {
                if (instrument(part, j) == number) {
                    return true;
                }
            }
            return false;
        }

        private void addInstrument(int part, int number) {
            if (choices[part] >= MOST_CHOICES) {
                return;
            }
            instruments[part * MOST_CHOICES + choices[part]] = number;
            choices[part]++;
        }

        private int detail(int what) {
            switch (what) {
                case 0: return minutes;
                case 1: return lips;
                case 2: return key;
                case 3: return parts;
                case 4: return mustSet;
                default: return partDetail(what);
            }
        }

        private int partDetail(int what) {
            if (what >= 10 && hasPart(what - 10)) {
                return choices[what - 10];
            }
            if (what < 100 || !hasPart((what - 100) / 10)) {
                return NONE;
            }
            int part = (what - 100) / 10;
            int j = (what - 100) % 10;
            return j < choices[part] ? instrument(part, j) : NONE;
        }

        private int seated() {
            int sum = 0;
            for (int i = 0; i < parts; i++) {
                if (chairs[i] != NONE) {
                    sum++;
                }
            }
            return sum;
        }

        private boolean seatsElsewhere(int p, int part) {
            for (int i = 0; i < parts; i++) {
                if (i != part && chairs[i] == p) {
                    return true;
                }
            }
            return false;
        }
    }

    /** THE LIBRARY. A text is read into the slots behind it, which join it only if there was no FAULT. */
    private static final class Library {
        private final Piece[] slots = new Piece[MOST_PIECES];
        private int size;
        private int told;

        private Library() {
            for (int k = 0; k < MOST_PIECES; k++) {
                slots[k] = new Piece();
            }
        }

        private Piece find(int k) {
            return k >= 0 && k < size ? slots[k] : null;
        }

        private boolean readText(Tape tape) {
            told = 0;
            tape.begin(2);
            for (int i = 0; i < TAPE_BYTES && tape.reads("piece"); i++) {
                readPiece(tape);
            }
            if (!tape.finish()) {
                return false;
            }
            size += told;
            return true;
        }

        private void readPiece(Tape tape) {
            if (size + told >= MOST_PIECES) {
                tape.fail(FAULT_TOO_MANY);
                return;
            }
            Piece fresh = slots[size + told];
            fresh.clear();
            tape.advance();
            fresh.name = readName(tape);
            tape.take(':');
            fresh.minutes = readNumber(tape, 1, 60);
            fresh.lips = readNumber(tape, 0, 9);
            fresh.key = readNumber(tape, 0, 11);
            for (int i = 0; i < TAPE_BYTES && tape.kind == ','; i++) {
                readPart(tape, fresh);
            }
            tape.take(';');
            told++;
        }

        private int readName(Tape tape) {
            int name = tape.value;
            if (tape.kind != Tape.LETTERS || isWord(tape)) {
                tape.fail(FAULT_STANDS);
            } else if (hasName(name)) {
                tape.fail(FAULT_TWICE);
            }
            tape.advance();
            return name;
        }

        private static boolean isWord(Tape tape) {
            return tape.reads("piece") || tape.reads("must") || tape.reads("may") || tape.reads("or");
        }

        private boolean hasName(int name) {
            for (int k = 0; k < size + told && k < MOST_PIECES; k++) {
                if (slots[k].name == name) {
                    return true;
                }
            }
            return false;
        }

        private static int readNumber(Tape tape, int low, int high) {
            int number = tape.value;
            if (tape.kind != Tape.NUMBER) {
                tape.fail(FAULT_STANDS);
            } else if (!isWithin(number, low, high)) {
                tape.fail(FAULT_NUMBER);
            }
            tape.advance();
            return number;
        }

        private static void readPart(Tape tape, Piece fresh) {
            if (fresh.parts >= MOST_PARTS) {
                tape.fail(FAULT_TOO_MANY);
                return;
            }
            tape.advance();
            boolean must = tape.reads("must");
            if (!must && !tape.reads("may")) {
                tape.fail(FAULT_STANDS);
            }
            tape.advance();
            fresh.addPart(must);
            readInstrument(tape, fresh, fresh.parts - 1);
            for (int choices = 1; choices <= MOST_CHOICES && tape.reads("or"); choices++) {
                if (choices == MOST_CHOICES) {
                    tape.fail(FAULT_TOO_MANY);
                }
                tape.advance();
                readInstrument(tape, fresh, fresh.parts - 1);
            }
        }

        private static void readInstrument(Tape tape, Piece fresh, int part) {
            if (tape.kind == Tape.NUMBER && fresh.hasInstrument(part, tape.value)) {
                tape.fail(FAULT_NUMBER);
            }
            fresh.addInstrument(part, readNumber(tape, 0, INSTRUMENTS - 1));
        }
    }

    /**
     * THE TAPE, and its TOKENS one by one. A SIGN's kind is its byte; the other kinds are below 0.
     * After the first FAULT the kind stays NOTHING, which no reader takes: so every reader comes to its end.
     */
    private static final class Tape {
        private static final int END = -1;
        private static final int NUMBER = -2;
        private static final int LETTERS = -3;
        private static final int NOTHING = -4;
        private static final int LONGEST_NAME = 6;

        private final int[] bytes = new int[TAPE_BYTES];
        private int length;
        private int longestNumber;
        private int next;
        private int kind = NOTHING;
        private int place;
        private int value;
        private int tokens;
        private int faultKind;
        private int faultPlace = NONE;

        private boolean hasRoom() {
            return length + FEED_BYTES <= TAPE_BYTES;
        }

        private void append(int four) {
            for (int shift = 24; shift >= 0 && length < TAPE_BYTES; shift -= 8) {
                bytes[length] = four >>> shift & 255;
                length++;
            }
        }

        private void begin(int digits) {
            longestNumber = digits;
            next = 0;
            tokens = 0;
            faultKind = 0;
            faultPlace = NONE;
            advance();
        }

        private boolean finish() {
            if (kind != END) {
                fail(FAULT_STANDS);
            }
            length = 0;
            return faultKind == 0;
        }

        private void fail(int what) {
            if (faultKind == 0) {
                faultKind = what;
                faultPlace = place;
            }
            kind = NOTHING;
        }

        // Five bits a letter: the six letters of the longest NAME fit into an int without loss.
        private void advance() {
            if (faultKind != 0) {
                return;
            }
            while (next < length && (bytes[next] == ' ' || bytes[next] == 10)) {
                next++;
            }
            place = next;
            value = 0;
            kind = next < length ? bytes[next] : END;
            if (kind == END) {
                return;
            }
            tokens++;
            if (kind >= 'a' && kind <= 'z') {
                while (next < length && bytes[next] >= 'a' && bytes[next] <= 'z') {
                    value = value << 5 | bytes[next] & 31;
                    next++;
                }
                kind = next - place <= LONGEST_NAME ? LETTERS : NOTHING;
            } else if (kind >= '0' && kind <= '9') {
                while (next < length && bytes[next] >= '0' && bytes[next] <= '9') {
                    value = value * 10 + bytes[next] - '0';
                    next++;
                }
                kind = next - place <= longestNumber ? NUMBER : NOTHING;
            } else {
                next++;
            }
        }

        private void take(int sign) {
            if (kind != sign) {
                fail(FAULT_STANDS);
            }
            advance();
        }

        private boolean reads(String word) {
            if (kind != LETTERS || next - place != word.length()) {
                return false;
            }
            for (int i = 0; i < word.length(); i++) {
                if (bytes[place + i] != word.charAt(i)) {
                    return false;
                }
            }
            return true;
        }
    }

    /**
     * THE RULE as steps for a stack: a step from 0 on is a NUMBER, -1 .. -5 one of the facts,
     * and below these a SIGN's byte, negated.
     */
    private static final class Rule {
        private static final int AGE = -1;
        private static final int DAYS = -2;
        private static final int PAST = -3;
        private static final int OUT = -4;
        private static final int DAY = -5;
        private static final int FACTS = 5;
        private static final int MOST_OPEN = 8;
        // Eight open brackets keep at most two values each, the rule itself two, a comparison three.
        private static final int STACK = 32;

        private final int[] facts = new int[FACTS];
        private final int[] stack = new int[STACK];
        private int[] steps = new int[TAPE_BYTES];
        private int[] draft = new int[TAPE_BYTES];
        private int size;
        private int drafted;
        private int top;

        private void beginDraft() {
            drafted = 0;
        }

        private void adoptDraft() {
            int[] old = steps;
            steps = draft;
            draft = old;
            size = drafted;
        }

        private void readEither(Tape tape, int open) {
            readBoth(tape, open);
            for (int i = 0; i < TAPE_BYTES && tape.kind == '|'; i++) {
                tape.advance();
                readBoth(tape, open);
                write(-'|');
            }
        }

        private void readBoth(Tape tape, int open) {
            readOne(tape, open);
            for (int i = 0; i < TAPE_BYTES && tape.kind == '&'; i++) {
                tape.advance();
                readOne(tape, open);
                write(-'&');
            }
        }

        private void readOne(Tape tape, int open) {
            int sign = tape.kind;
            if (sign != '!' && sign != '(') {
                readComparison(tape);
                return;
            }
            if (open >= MOST_OPEN) {
                tape.fail(FAULT_TOO_MANY);
                return;
            }
            tape.advance();
            if (sign == '!') {
                readOne(tape, open + 1);
                write(-'!');
            } else {
                readEither(tape, open + 1);
                tape.take(')');
            }
        }

        private void readComparison(Tape tape) {
            readSum(tape);
            int sign = tape.kind;
            if (sign != '<' && sign != '=' && sign != '>') {
                tape.fail(FAULT_STANDS);
            }
            tape.advance();
            readSum(tape);
            write(-sign);
        }

        private void readSum(Tape tape) {
            readValue(tape);
            for (int i = 0; i < TAPE_BYTES && (tape.kind == '+' || tape.kind == '-'); i++) {
                int sign = tape.kind;
                tape.advance();
                readValue(tape);
                write(-sign);
            }
        }

        private void readValue(Tape tape) {
            if (tape.kind == Tape.NUMBER) {
                write(tape.value);
            } else if (tape.reads("age")) {
                write(AGE);
            } else if (tape.reads("days")) {
                write(DAYS);
            } else if (tape.reads("past")) {
                write(PAST);
            } else if (tape.reads("out")) {
                write(OUT);
            } else if (tape.reads("day")) {
                write(DAY);
            } else {
                tape.fail(FAULT_STANDS);
            }
            tape.advance();
        }

        private void write(int step) {
            if (drafted < TAPE_BYTES) {
                draft[drafted] = step;
                drafted++;
            }
        }

        private void setPlayer(int age, int past, int out) {
            facts[-1 - AGE] = age;
            facts[-1 - PAST] = past;
            facts[-1 - OUT] = out;
        }

        private void setDay(int day, int days) {
            facts[-1 - DAY] = day;
            facts[-1 - DAYS] = days;
        }

        private boolean allows() {
            if (size == 0) {
                return true;
            }
            top = 0;
            for (int i = 0; i < size; i++) {
                work(steps[i]);
            }
            return pop() != 0;
        }

        private void work(int step) {
            if (step >= 0) {
                push(step);
            } else if (step >= -FACTS) {
                push(facts[-1 - step]);
            } else if (step == -'!') {
                push(pop() == 0 ? 1 : 0);
            } else {
                int right = pop();
                int left = pop();
                push(join(-step, left, right));
            }
        }

        private static int join(int sign, int left, int right) {
            switch (sign) {
                case '+': return left + right;
                case '-': return left - right;
                case '<': return left < right ? 1 : 0;
                case '=': return left == right ? 1 : 0;
                case '>': return left > right ? 1 : 0;
                case '&': return left & right;
                default: return left | right;
            }
        }

        private void push(int x) {
            if (top < STACK) {
                stack[top] = x;
                top++;
            }
        }

        private int pop() {
            if (top <= 0) {
                return 0;
            }
            top--;
            return stack[top];
        }
    }

    /** The WORDS about COPIES, in the order in which they were told. */
    private static final class Loans {
        private final int[] copyOf = new int[MOST_WORDS];
        private final int[] dayOf = new int[MOST_WORDS];
        private final int[] thereOf = new int[MOST_WORDS];
        private final int[] latestDay = new int[COPIES];
        private final int[] latestPlace = new int[COPIES];
        private int size;

        private int note(int copy, int day, int there) {
            if (size >= MOST_WORDS) {
                return NONE;
            }
            copyOf[size] = copy;
            dayOf[size] = day;
            thereOf[size] = there;
            size++;
            return size - 1;
        }

        private int placeOf(int copy, int day, int n) {
            settle(day, n);
            return latestPlace[copy];
        }

        private int copiesAt(int there, int day, int n) {
            settle(day, n);
            int sum = 0;
            for (int c = 0; c < COPIES; c++) {
                if (latestPlace[c] == there) {
                    sum++;
                }
            }
            return sum;
        }

        // Of equal days the word told later wins, so it may replace the one that stands.
        private void settle(int day, int n) {
            Arrays.fill(latestDay, NONE);
            Arrays.fill(latestPlace, SHELF);
            for (int w = 0; w < n && w < size; w++) {
                int copy = copyOf[w];
                if (dayOf[w] <= day && dayOf[w] >= latestDay[copy]) {
                    latestDay[copy] = dayOf[w];
                    latestPlace[copy] = thereOf[w];
                }
            }
        }
    }

    /** Whether the MUST PARTS can be covered by those who are HERE, and the set that shows why not. */
    private static final class Cover {
        private final int[] able = new int[MOST_PARTS];
        private final int[] partOf = new int[MOST_PLAYERS];
        private final int[] ableForSet = new int[PART_SETS];
        private int asked;

        private boolean coversMust(Piece of, Players players) {
            findAble(of, players);
            Arrays.fill(partOf, NONE);
            for (int part = 0; part < of.parts; part++) {
                asked = 0;
                if (of.isMust(part) && !findPlayer(part, 0)) {
                    return false;
                }
            }
            return true;
        }

        private void findAble(Piece of, Players players) {
            for (int part = 0; part < of.parts; part++) {
                able[part] = of.isMust(part) ? players.presentFor(of, part) : 0;
            }
        }

        // An augmenting path: a player who has a part already may give it up if another can take that one.
        private boolean findPlayer(int part, int depth) {
            if (depth > MOST_PARTS) {
                return false;
            }
            for (int p = 0; p < MOST_PLAYERS; p++) {
                int bit = 1 << p;
                if ((able[part] & bit) == 0 || (asked & bit) != 0) {
                    continue;
                }
                asked |= bit;
                if (partOf[p] == NONE || findPlayer(partOf[p], depth + 1)) {
                    partOf[p] = part;
                    return true;
                }
            }
            return false;
        }

        // Sets come by rising number, so only one of fewer parts replaces what was found.
        private int leastLack(Piece of, Players players) {
            findAble(of, players);
            int found = 0;
            int fewest = MOST_PARTS + 1;
            for (int part = 0; part < of.parts; part++) {
                int bit = 1 << part;
                for (int lower = 0; lower < bit; lower++) {
                    int set = bit | lower;
                    ableForSet[set] = ableForSet[lower] | able[part];
                    int size = Integer.bitCount(set);
                    if ((set & ~of.mustSet) == 0 && size < fewest && size > Integer.bitCount(ableForSet[set])) {
                        found = set;
                        fewest = size;
                    }
                }
            }
            return found;
        }
    }

    /**
     * Gives a PIECE the SEATING of the least weight (the Hungarian method: rows are parts, columns are
     * players and behind them one empty chair a part). What is to be least comes in whole units of
     * FIRST_UNIT; below it the players stand as digits of base 15, part 0 highest and none as 14, so
     * that of equal ones the first SEATING is the lightest and no two weigh the same.
     */
    private static final class Seater {
        private static final long[] DIGIT = {
            38443359375L, 2562890625L, 170859375L, 11390625L, 759375L, 50625L, 3375L, 225L, 15L, 1L
        };
        private static final long FIRST_UNIT = 576650390625L;
        // More than the COST of a whole SEATING: a part more is worth any COST.
        private static final long EMPTY_CHAIR = 100 * FIRST_UNIT;
        private static final long FORBIDDEN = 10000 * FIRST_UNIT;
        private static final long FAR = Long.MAX_VALUE;
        private static final int EMPTY_DIGIT = MOST_PLAYERS;
        private static final int MOST_COLUMNS = MOST_PLAYERS + MOST_PARTS;

        private final long[] weights = new long[MOST_PARTS * MOST_COLUMNS];
        // Row 0 and column 0 stand for the row that looks for its column.
        private final long[] rowPrice = new long[MOST_PARTS + 1];
        private final long[] columnPrice = new long[MOST_COLUMNS + 1];
        private final long[] slack = new long[MOST_COLUMNS + 1];
        private final int[] rowOf = new int[MOST_COLUMNS + 1];
        private final int[] cameFrom = new int[MOST_COLUMNS + 1];
        private int columns;

        private void seatAnew(Piece of, Players players) {
            for (int part = 0; part < of.parts; part++) {
                for (int p = 0; p < players.size; p++) {
                    int price = players.isPresent(p) ? players.partCost(p, of, part) : NONE;
                    weigh(part, p, price == NONE ? FORBIDDEN : price * FIRST_UNIT + p * DIGIT[part]);
                }
                weighEmpty(of, players, part, EMPTY_CHAIR);
            }
            match(of.parts, players.size);
            takeChairs(of, players.size);
        }

        private int seatWithFewestChanges(Piece of, Players players) {
            for (int part = 0; part < of.parts; part++) {
                for (int p = 0; p < players.size; p++) {
                    boolean can = players.isPresent(p) && players.partCost(p, of, part) != NONE;
                    long change = of.chairs[part] == p ? 0 : FIRST_UNIT;
                    weigh(part, p, can ? change + p * DIGIT[part] : FORBIDDEN);
                }
                weighEmpty(of, players, part, of.chairs[part] == NONE ? 0 : FIRST_UNIT);
            }
            match(of.parts, players.size);
            return takeChairs(of, players.size);
        }

        private void weigh(int part, int column, long weight) {
            weights[part * MOST_COLUMNS + column] = weight;
        }

        private void weighEmpty(Piece of, Players players, int part, long price) {
            long weight = of.isMust(part) ? FORBIDDEN : price + EMPTY_DIGIT * DIGIT[part];
            for (int i = 0; i < of.parts; i++) {
                weigh(part, players.size + i, weight);
            }
        }

        private void match(int rows, int playerColumns) {
            columns = playerColumns + rows;
            Arrays.fill(rowPrice, 0);
            Arrays.fill(columnPrice, 0);
            Arrays.fill(rowOf, 0);
            for (int row = 1; row <= rows; row++) {
                placeRow(row);
            }
        }

        private void placeRow(int row) {
            rowOf[0] = row;
            Arrays.fill(slack, FAR);
            int reached = 0;
            int column = 0;
            for (int i = 0; i <= columns && rowOf[column] != 0; i++) {
                reached |= 1 << column;
                column = nearestColumn(column, reached);
            }
            for (int i = 0; i <= columns && column != 0; i++) {
                int before = cameFrom[column];
                rowOf[column] = rowOf[before];
                column = before;
            }
        }

        private int nearestColumn(int from, int reached) {
            int row = rowOf[from];
            long least = FAR;
            int nearest = 0;
            for (int c = 1; c <= columns; c++) {
                if ((reached >> c & 1) != 0) {
                    continue;
                }
                long gap = weights[(row - 1) * MOST_COLUMNS + c - 1] - rowPrice[row] - columnPrice[c];
                if (gap < slack[c]) {
                    slack[c] = gap;
                    cameFrom[c] = from;
                }
                if (slack[c] < least) {
                    least = slack[c];
                    nearest = c;
                }
            }
            shiftPrices(reached, least);
            return nearest;
        }

        private void shiftPrices(int reached, long by) {
            for (int c = 0; c <= columns; c++) {
                if ((reached >> c & 1) != 0) {
                    rowPrice[rowOf[c]] += by;
                    columnPrice[c] -= by;
                } else {
                    slack[c] -= by;
                }
            }
        }

        private int takeChairs(Piece of, int playerColumns) {
            int changed = 0;
            for (int c = 1; c <= columns; c++) {
                int part = rowOf[c] - 1;
                if (!of.hasPart(part)) {
                    continue;
                }
                int p = c <= playerColumns ? c - 1 : NONE;
                if (of.chairs[part] != p) {
                    of.chairs[part] = p;
                    changed++;
                }
            }
            return changed;
        }
    }

    /**
     * THE PROGRAMME. For every set of choices and its last one the best row is kept as one number:
     * its STRAIN in units of STRAIN_UNIT, and below these its pieces as digits, the first one highest.
     */
    private static final class Planner {
        private static final long[] DIGIT = {
            1000000000L, 100000000L, 10000000L, 1000000L, 100000L, 10000L, 1000L, 100L, 10L, 1L
        };
        private static final long STRAIN_UNIT = 10000000000L;
        private static final long FAR = Long.MAX_VALUE;
        private static final int KEYS = 12;

        private final int[] row = new int[MOST_PIECES];
        private int planned;
        private int rowStrain;
        private final int[] number = new int[MOST_PIECES];
        private final int[] minutes = new int[MOST_PIECES];
        private final int[] lips = new int[MOST_PIECES];
        private final int[] key = new int[MOST_PIECES];
        private int choices;
        // Grown when it is needed: a desk that plans nothing needs no room for it.
        private long[] best = new long[0];

        private void forgetChoices() {
            choices = 0;
        }

        private void offer(int k, Piece of) {
            if (choices >= MOST_PIECES) {
                return;
            }
            number[choices] = k;
            minutes[choices] = of.minutes;
            lips[choices] = of.lips;
            key[choices] = of.key;
            choices++;
        }

        private int arrange(int mostMinutes, int mostLips) {
            int sets = 1 << choices;
            if (best.length < sets * choices) {
                best = new long[sets * choices];
            }
            int longest = 0;
            int longestSet = 0;
            long least = 0;
            for (int set = 1; set < sets; set++) {
                int total = minutesOf(set);
                long value = fillSet(set, total <= mostMinutes, mostLips);
                if (value != FAR && (total > longest || total == longest && value < least)) {
                    longest = total;
                    longestSet = set;
                    least = value;
                }
            }
            keepRow(Integer.bitCount(longestSet), least);
            return longest;
        }

        private int minutesOf(int set) {
            int sum = 0;
            for (int c = 0; c < choices; c++) {
                if ((set >> c & 1) != 0) {
                    sum += minutes[c];
                }
            }
            return sum;
        }

        private long fillSet(int set, boolean fits, int mostLips) {
            long least = FAR;
            for (int last = 0; last < choices; last++) {
                boolean within = fits && (set >> last & 1) != 0;
                long value = within ? bestEndingWith(set, last, mostLips) : FAR;
                best[set * choices + last] = value;
                least = Math.min(least, value);
            }
            return least;
        }

        private long bestEndingWith(int set, int last, int mostLips) {
            int rest = set & ~(1 << last);
            long digit = number[last] * DIGIT[Integer.bitCount(rest)];
            if (rest == 0) {
                return digit;
            }
            long least = FAR;
            for (int c = 0; c < choices; c++) {
                if ((rest >> c & 1) == 0 || lips[c] + lips[last] > mostLips) {
                    continue;
                }
                long before = best[rest * choices + c];
                if (before != FAR) {
                    least = Math.min(least, before + keyGap(c, last) * STRAIN_UNIT + digit);
                }
            }
            return least;
        }

        private int keyGap(int one, int other) {
            int apart = Math.abs(key[one] - key[other]);
            return Math.min(apart, KEYS - apart);
        }

        private void keepRow(int length, long value) {
            planned = length;
            rowStrain = (int) (value / STRAIN_UNIT);
            for (int i = 0; i < length && i < MOST_PIECES; i++) {
                row[i] = (int) (value / DIGIT[i] % 10);
            }
        }
    }
}
