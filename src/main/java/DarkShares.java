import java.util.Arrays;

/** A night of twelve cells of dark that at most five boys have between them, by shares. */
public final class DarkShares {
    public static final int NONE = -1, BAD = -2, NO = -3, FULL = -4;

    private static final int CELLS = 12;
    private static final int ALL_CELLS = (1 << CELLS) - 1;
    private static final int MOST_BOYS = 5;
    private static final int KINDS = 6;
    private static final int MOST_NEED = 12;
    private static final int MOST_JAM = 40;
    private static final int MOST_NOTES = 6;
    private static final int MOST_SAID = 20;
    private static final int MOST_UNDONE = 8;
    private static final int MOST_TEXT = 150;
    private static final int MOST_STEPS = 99;
    private static final int IMAGES = 2;
    private static final int MOST_ODDS = 10;
    private static final int MOST_SEED = 999999;
    private static final int MOST_TERMS = 60;
    private static final int COUNTS = 7;
    // Some calls answer numbers of which -2 could be taken for one: they tell BAD by this.
    private static final int OTHER_BAD = -10;
    private static final int NOT_SO_MANY = -5;

    private final Night now;
    // What STEPS, TERMS and a TEXT are tried on, so that all stays if need be.
    private final Night trial;
    private final Night[] images;
    private final boolean[] kept;
    private final Pieces rows;
    private final Text text;
    private long above;
    private long below;
    private int bads;
    private int noes;
    private int fulls;

    public DarkShares() {
        Plain[] kinds = {new Plain(), new Small(), new Prefect(), new Sleeper(), new Afraid(), new Saver()};
        now = new Night(kinds);
        trial = new Night(kinds);
        images = new Night[] {new Night(kinds), new Night(kinds)};
        kept = new boolean[IMAGES];
        rows = new Pieces();
        text = new Text();
        below = 1;
    }

    // ---- a night

    public int night() {
        int were = now.boys;
        now.wipe();
        return were;
    }

    public int boy(int kind, int need, int jam) {
        if (!within(kind, KINDS - 1) || !within(need, MOST_NEED) || !within(jam, MOST_JAM)) return bad();
        if (now.boys >= MOST_BOYS) return full();
        return now.comes(kind, need, jam);
    }

    public int give(int j, int boy) {
        if (!isCell(j) || boy != NONE && !isBoy(boy)) return otherBad();
        int was = now.owner[j];
        now.remember();
        now.owner[j] = boy;
        return was;
    }

    public int type(int c) {
        if (!within(c, 127)) return bad();
        if (text.length >= MOST_TEXT) return full();
        return text.put((byte) c);
    }

    public int clear() {
        int had = text.length;
        text.length = 0;
        return had;
    }

    public int read() {
        int items = text.tell(trial);
        if (items > 0) now.becomes(trial);
        return items;
    }

    // ---- swaps

    public int swap(int i, int j) {
        if (!isCell(i) || !isCell(j) || i == j) return bad();
        if (!now.ofUnlikeBoys(i, j)) return no();
        now.remember();
        now.changeHands(i, j);
        return 1;
    }

    public int sell(int j, int boy, int jam) {
        if (!isCell(j) || !isBoy(boy) || !within(jam, MOST_JAM)) return bad();
        int seller = now.owner[j];
        if (seller == boy || now.jam[boy] < jam) return no();
        now.remember();
        now.owner[j] = boy;
        now.jam[boy] -= jam;
        if (isBoy(seller)) now.jam[seller] += jam;
        return now.jam[boy];
    }

    public int undo() {
        if (now.undos <= 0) return no();
        now.goBack();
        return now.greyCells();
    }

    public int of(int boy, int what) {
        if (!isBoy(boy)) return bad();
        switch (what) {
            case 0: return now.kind[boy];
            case 1: return now.need[boy];
            case 2: return now.jam[boy];
            case 3: return now.cellsOf(boy);
            case 4: return now.ownWorth(boy);
            default: return bad();
        }
    }

    public int worth(int boy, int cells) {
        if (!isBoy(boy) || !within(cells, ALL_CELLS)) return bad();
        return now.worthTo(boy, cells);
    }

    public int whose(int j) {
        return isCell(j) ? now.owner[j] : otherBad();
    }

    // ---- fair

    public int enough() {
        return now.haveEnough();
    }

    public int envy(int boy) {
        return isBoy(boy) ? now.enviedBy(boy) : bad();
    }

    public int fair(int boy) {
        if (!isBoy(boy)) return bad();
        return now.isFair(boy, now.cellsOf(boy)) ? 1 : 0;
    }

    public int pieces(int i) {
        if (i < NONE) return otherBad();
        Pieces.search(rows, now, 0, 0, 0);
        // Where no order does there is none to be too short, so that NONE comes ahead of -5.
        if (rows.fewest == NONE || i == NONE) return rows.fewest;
        return i < now.boys ? rows.first[i] : NOT_SO_MANY;
    }

    public int swaps(int k) {
        if (k < NONE) return otherBad();
        if (k == NONE) return now.howManySwaps();
        int found = now.swapAt(k);
        return found == NONE ? NOT_SO_MANY : found;
    }

    public int steps() {
        trial.becomes(now);
        int done = 0;
        while (done < MOST_STEPS) {
            int next = trial.swapAt(0);
            if (next == NONE) break;
            trial.changeHands(next / 100, next % 100);
            done++;
        }
        return done;
    }

    public int sale(int j, int what) {
        if (!isCell(j) || !within(what, 1)) return bad();
        int buyer = now.bestBuyer(j);
        if (buyer == NONE || what == 0) return buyer;
        return now.saleBrings(j, buyer);
    }

    public int longest(int what) {
        if (!within(what, 1)) return bad();
        int length = 0;
        int from = NONE;
        for (int j = 0; j < CELLS; j++) {
            int here = now.runFrom(j);
            if (here > length) {
                length = here;
                from = j;
            }
        }
        return what == 0 ? from : length;
    }

    public int together(int a, int b) {
        if (!isBoy(a) || !isBoy(b) || a == b) return bad();
        int cells = now.cellsOf(a) | now.cellsOf(b);
        int most = 0;
        int run = 0;
        for (int j = 0; j < CELLS; j++) {
            run = has(cells, j) ? run + 1 : 0;
            most = Math.max(most, run);
        }
        return most;
    }

    // ---- what he said

    public int note(int boy, int j, int v, int ahead) {
        if (!isBoy(boy) || !isCell(j) || !within(v, MOST_SAID) || !within(ahead, 1)) return bad();
        if (now.notes >= MOST_NOTES) return full();
        return now.putDown(boy, j, v, ahead);
    }

    public int forget() {
        int were = now.notes;
        now.notes = 0;
        return were;
    }

    public int is(int boy) {
        return isBoy(boy) ? now.fittingKinds(boy) : bad();
    }

    public int asks(int boy) {
        return isBoy(boy) ? now.tellingCell(now.fittingKinds(boy)) : bad();
    }

    public int took(int boy, int seen) {
        if (!isBoy(boy) || !within(seen, ALL_CELLS)) return bad();
        return now.robbedBy(boy, seen);
    }

    public int owls(int boy, int c) {
        if (!isBoy(boy) || !within(c, MOST_ODDS)) return bad();
        setFraction(now.tenfoldMean(boy, c), MOST_ODDS);
        return 1;
    }

    public int terms(int seed, int n) {
        if (!within(seed, MOST_SEED) || !within(n, MOST_TERMS)) return bad();
        trial.becomes(now);
        long x = seed;
        int done = 0;
        for (int t = 0; t < n; t++) {
            x = drawn(x);
            int i = cellBy(x);
            x = drawn(x);
            int j = cellBy(x);
            if (trial.bothGain(i, j)) {
                trial.changeHands(i, j);
                done++;
            }
        }
        return done;
    }

    // ---- what there is

    public long part(int what) {
        switch (what) {
            case 0: return above;
            case 1: return below;
            default: return bad();
        }
    }

    public int image(int i) {
        if (!within(i, IMAGES - 1)) return bad();
        images[i].becomes(now);
        kept[i] = true;
        return 1;
    }

    public int from(int i) {
        if (!within(i, IMAGES - 1)) return bad();
        if (!kept[i]) return no();
        now.becomes(images[i]);
        return 1;
    }

    public int status(int what) {
        switch (what) {
            case 0: return bads;
            case 1: return noes;
            case 2: return fulls;
            default:
                bad();
                return -1;
        }
    }

    public int count(int what) {
        switch (what) {
            case 0: return now.boys;
            case 1: return now.greyCells();
            case 2: return now.allJam();
            case 3: return Integer.bitCount(now.haveEnough());
            case 4: return now.notes;
            case 5: return now.undos;
            case 6: return text.length;
            default: return bad();
        }
    }

    public long digest() {
        long h = 1193;
        for (int what = 0; what < COUNTS; what++) h = 31 * h + count(what);
        h = now.mixInto(h);
        h = 31 * h + above;
        return 31 * h + below;
    }

    // ---- what the calls have in common

    private int bad() {
        bads++;
        return BAD;
    }

    private int otherBad() {
        bads++;
        return OTHER_BAD;
    }

    private int no() {
        noes++;
        return NO;
    }

    private int full() {
        fulls++;
        return FULL;
    }

    private boolean isBoy(int boy) {
        return within(boy, now.boys - 1);
    }

    private static boolean isCell(int j) {
        return within(j, CELLS - 1);
    }

    private static boolean within(int number, int most) {
        return number >= 0 && number <= most;
    }

    private static boolean has(int bits, int place) {
        return place >= 0 && (bits >> place & 1) == 1;
    }

    /** The owls come to these cells, prefects like them, and such as are afraid don't. */
    private static boolean isMiddle(int j) {
        return j >= 4 && j <= 7;
    }

    private static long drawn(long x) {
        return (x * 1103515245L + 12345L) % 2147483648L;
    }

    private static int cellBy(long x) {
        return (int) (x / 65536 % CELLS);
    }

    private void setFraction(int top, int bottom) {
        int divisor = commonDivisor(top, bottom);
        if (divisor < 1) return;
        above = top / divisor;
        below = bottom / divisor;
    }

    private static int commonDivisor(int top, int bottom) {
        for (int d = bottom; d > 1; d--) {
            if (top % d == 0 && bottom % d == 0) return d;
        }
        return 1;
    }

    // ---- kinds

    private static class Plain {
        int ofCell(int j, boolean ahead) {
            return 3;
        }
    }

    private static class Small extends Plain {
        int ofCell(int j, boolean ahead) {
            int plain = super.ofCell(j, ahead);
            return j < 3 ? plain + 2 : plain;
        }
    }

    private static final class Prefect extends Plain {
        int ofCell(int j, boolean ahead) {
            int plain = super.ofCell(j, ahead);
            return isMiddle(j) ? 2 * plain : plain;
        }
    }

    private static class Sleeper extends Plain {
        int ofCell(int j, boolean ahead) {
            int plain = super.ofCell(j, ahead);
            return ahead ? plain + 2 : plain;
        }
    }

    private static final class Afraid extends Small {
        int ofCell(int j, boolean ahead) {
            return isMiddle(j) ? 0 : super.ofCell(j, ahead);
        }
    }

    private static final class Saver extends Sleeper {
        int ofCell(int j, boolean ahead) {
            int less = super.ofCell(j, ahead) - 1;
            return j == CELLS - 1 ? less + 3 : less;
        }
    }

    /** All that a night holds: what IMAGES keep and a TEXT takes the place of. */
    private static final class Night {
        private static final int NOTE_SIZE = 4;
        private static final int PAST_SIZE = CELLS + MOST_BOYS;

        private final Plain[] kinds;
        private final int[] kind = new int[MOST_BOYS];
        private final int[] need = new int[MOST_BOYS];
        private final int[] jam = new int[MOST_BOYS];
        private final int[] owner = new int[CELLS];
        // NOTES one behind the other, each a BOY, j, v, ahead.
        private final int[] said = new int[MOST_NOTES * NOTE_SIZE];
        // What may be undone, the oldest first, each whose CELLS were and JAM.
        private final int[] past = new int[MOST_UNDONE * PAST_SIZE];
        private int boys;
        private int notes;
        private int undos;

        Night(Plain[] kinds) {
            this.kinds = kinds;
            Arrays.fill(owner, NONE);
        }

        void wipe() {
            Arrays.fill(owner, NONE);
            boys = 0;
            notes = 0;
            undos = 0;
        }

        void becomes(Night other) {
            System.arraycopy(other.kind, 0, kind, 0, MOST_BOYS);
            System.arraycopy(other.need, 0, need, 0, MOST_BOYS);
            System.arraycopy(other.jam, 0, jam, 0, MOST_BOYS);
            System.arraycopy(other.owner, 0, owner, 0, CELLS);
            System.arraycopy(other.said, 0, said, 0, MOST_NOTES * NOTE_SIZE);
            System.arraycopy(other.past, 0, past, 0, MOST_UNDONE * PAST_SIZE);
            boys = other.boys;
            notes = other.notes;
            undos = other.undos;
        }

        int comes(int itsKind, int itsNeed, int itsJam) {
            if (boys >= MOST_BOYS) return FULL;
            kind[boys] = itsKind;
            need[boys] = itsNeed;
            jam[boys] = itsJam;
            undos = 0;
            boys++;
            return boys - 1;
        }

        int putDown(int boy, int j, int v, int ahead) {
            if (notes >= MOST_NOTES) return FULL;
            int at = notes * NOTE_SIZE;
            said[at] = boy;
            said[at + 1] = j;
            said[at + 2] = v;
            said[at + 3] = ahead;
            notes++;
            return notes;
        }

        // ---- what may be undone

        void remember() {
            if (undos >= MOST_UNDONE) {
                undos = MOST_UNDONE - 1;
                System.arraycopy(past, PAST_SIZE, past, 0, undos * PAST_SIZE);
            }
            int at = undos * PAST_SIZE;
            System.arraycopy(owner, 0, past, at, CELLS);
            System.arraycopy(jam, 0, past, at + CELLS, MOST_BOYS);
            undos++;
        }

        void goBack() {
            if (undos <= 0) return;
            undos--;
            int at = undos * PAST_SIZE;
            System.arraycopy(past, at, owner, 0, CELLS);
            System.arraycopy(past, at + CELLS, jam, 0, MOST_BOYS);
        }

        // ---- cells and what they are worth

        int cellsOf(int boy) {
            int cells = 0;
            for (int j = 0; j < CELLS; j++) {
                if (owner[j] == boy) cells |= 1 << j;
            }
            return cells;
        }

        int greyCells() {
            return Integer.bitCount(cellsOf(NONE));
        }

        int allJam() {
            int sum = 0;
            for (int b = 0; b < boys; b++) sum += jam[b];
            return sum;
        }

        private Plain kindOf(int boy) {
            return kinds[kind[boy]];
        }

        int worthTo(int boy, int cells) {
            Plain asKind = kindOf(boy);
            int sum = 0;
            for (int j = 0; j < CELLS; j++) {
                if (has(cells, j)) sum += asKind.ofCell(j, has(cells, j - 1));
            }
            return sum;
        }

        int ownWorth(int boy) {
            return worthTo(boy, cellsOf(boy));
        }

        int haveEnough() {
            int bits = 0;
            for (int b = 0; b < boys; b++) {
                if (Integer.bitCount(cellsOf(b)) >= need[b]) bits |= 1 << b;
            }
            return bits;
        }

        int enviedBy(int boy) {
            int own = ownWorth(boy);
            int bits = 0;
            for (int b = 0; b < boys; b++) {
                if (worthTo(boy, cellsOf(b)) > own) bits |= 1 << b;
            }
            return bits;
        }

        boolean isFair(int boy, int cells) {
            return worthTo(boy, cells) * boys >= worthTo(boy, ALL_CELLS);
        }

        /** How many cells from j on are one boy's; none if j is grey. */
        int runFrom(int j) {
            int boy = owner[j];
            if (boy == NONE) return 0;
            int end = j;
            while (end < CELLS && owner[end] == boy) end++;
            return end - j;
        }

        // ---- swaps

        boolean ofUnlikeBoys(int i, int j) {
            return owner[i] != NONE && owner[j] != NONE && owner[i] != owner[j];
        }

        void changeHands(int i, int j) {
            int boy = owner[i];
            owner[i] = owner[j];
            owner[j] = boy;
        }

        boolean bothGain(int i, int j) {
            if (!ofUnlikeBoys(i, j)) return false;
            int turned = 1 << i | 1 << j;
            return gains(owner[i], turned) && gains(owner[j], turned);
        }

        private boolean gains(int boy, int turned) {
            int own = cellsOf(boy);
            return worthTo(boy, own ^ turned) > worthTo(boy, own);
        }

        int howManySwaps() {
            int found = 0;
            for (int i = 0; i < CELLS; i++) {
                for (int j = i + 1; j < CELLS; j++) {
                    if (bothGain(i, j)) found++;
                }
            }
            return found;
        }

        /** The k-th swap as 100 i and j, or NONE. */
        int swapAt(int k) {
            int found = 0;
            for (int i = 0; i < CELLS; i++) {
                for (int j = i + 1; j < CELLS; j++) {
                    if (!bothGain(i, j)) continue;
                    if (found == k) return 100 * i + j;
                    found++;
                }
            }
            return NONE;
        }

        // ---- sales

        private int lossOf(int j) {
            int boy = owner[j];
            if (boy == NONE) return 0;
            int own = cellsOf(boy);
            return worthTo(boy, own) - worthTo(boy, own & ~(1 << j));
        }

        int saleBrings(int j, int buyer) {
            int own = cellsOf(buyer);
            return worthTo(buyer, own | 1 << j) - worthTo(buyer, own) - lossOf(j);
        }

        int bestBuyer(int j) {
            int loss = lossOf(j);
            int best = NONE;
            int most = 0;
            for (int b = 0; b < boys; b++) {
                if (b == owner[j] || jam[b] < loss) continue;
                int brings = saleBrings(j, b);
                if (brings > most) {
                    most = brings;
                    best = b;
                }
            }
            return best;
        }

        // ---- what he said

        int fittingKinds(int boy) {
            int bits = 0;
            for (int k = 0; k < KINDS; k++) {
                if (fitsAll(boy, kinds[k])) bits |= 1 << k;
            }
            return bits;
        }

        private boolean fitsAll(int boy, Plain asKind) {
            for (int n = 0; n < notes; n++) {
                int at = n * NOTE_SIZE;
                if (said[at] != boy) continue;
                if (asKind.ofCell(said[at + 1], said[at + 3] == 1) != said[at + 2]) return false;
            }
            return true;
        }

        int tellingCell(int fitting) {
            if (fitting == 0) return NONE;
            int best = NONE;
            int fewest = KINDS + 1;
            for (int j = 0; j < CELLS; j++) {
                int alike = mostAlike(fitting, j);
                if (alike < fewest) {
                    fewest = alike;
                    best = j;
                }
            }
            return best;
        }

        private int mostAlike(int fitting, int j) {
            int most = 0;
            for (int k = 0; k < KINDS; k++) {
                if (has(fitting, k)) most = Math.max(most, howManyAs(fitting, j, kinds[k].ofCell(j, false)));
            }
            return most;
        }

        private int howManyAs(int fitting, int j, int v) {
            int alike = 0;
            for (int k = 0; k < KINDS; k++) {
                if (has(fitting, k) && kinds[k].ofCell(j, false) == v) alike++;
            }
            return alike;
        }

        int robbedBy(int boy, int seen) {
            int own = cellsOf(boy);
            if ((own & ~seen) != 0) return 0;
            int taken = seen & ~own;
            int bits = 0;
            for (int b = 0; b < boys; b++) {
                if (b != boy && (taken & ~cellsOf(b)) == 0) bits |= 1 << b;
            }
            return bits;
        }

        /** Ten times the mean, so that it is whole. */
        int tenfoldMean(int boy, int c) {
            int own = cellsOf(boy);
            int sum = 0;
            for (int j = 0; j < CELLS; j++) {
                if (!has(own, j)) continue;
                int quiet = kindOf(boy).ofCell(j, has(own, j - 1));
                sum += quiet * (isMiddle(j) ? MOST_ODDS - c : MOST_ODDS);
            }
            return sum;
        }

        long mixInto(long start) {
            long h = start;
            for (int b = 0; b < boys; b++) {
                h = 31 * h + kind[b];
                h = 31 * h + need[b];
                h = 31 * h + jam[b];
            }
            for (int j = 0; j < CELLS; j++) h = 31 * h + owner[j];
            for (int n = 0; n < notes * NOTE_SIZE; n++) h = 31 * h + said[n];
            return h;
        }
    }

    /** Looks for the order in which fair pieces in a row take the fewest cells. */
    private static final class Pieces {
        private final int[] order = new int[MOST_BOYS];
        private final int[] first = new int[MOST_BOYS];
        private int fewest;

        /** Begins with depth, placed and from 0; each level puts one boy more into the order. */
        private static void search(Pieces to, Night night, int depth, int placed, int from) {
            if (depth == 0) to.fewest = NONE;
            if (depth >= night.boys || depth >= MOST_BOYS) {
                to.keepIfFewer(from);
                return;
            }
            for (int b = 0; b < night.boys; b++) {
                if (has(placed, b)) continue;
                int end = endOfPiece(night, b, from);
                if (end == NONE) continue;
                to.order[depth] = b;
                search(to, night, depth + 1, placed | 1 << b, end);
            }
        }

        /** Orders come rising, so that one as good as an earlier one is not the first. */
        private void keepIfFewer(int cells) {
            if (fewest != NONE && cells >= fewest) return;
            fewest = cells;
            System.arraycopy(order, 0, first, 0, MOST_BOYS);
        }

        private static int endOfPiece(Night night, int boy, int from) {
            int cells = 0;
            for (int end = from; end <= CELLS; end++) {
                if (night.isFair(boy, cells)) return end;
                cells |= 1 << end;
            }
            return NONE;
        }
    }

    /** The text, and how a night is read from it, token by token. */
    private static final class Text {
        private static final int END = 0, WORD = 1, NUMBER = 2, STOP = 3, WRONG = 4;

        private final byte[] bytes = new byte[MOST_TEXT];
        private int length;
        private int at;
        private int token;
        private int start;
        private int items;

        int put(byte c) {
            if (length >= MOST_TEXT) return FULL;
            bytes[length] = c;
            length++;
            return length;
        }

        /** How many items, or -10 less the fault; the night is of use only without one. */
        int tell(Night night) {
            at = 0;
            night.wipe();
            // An item takes a byte or more, so that the text's end is an end of this, too.
            for (items = 0; items <= length; items++) {
                next();
                if (items > 0 && token == END) return items;
                if (!item(night)) return -10 - start;
            }
            return items;
        }

        private boolean item(Night night) {
            if (items == 0) return isWord("night") && stops();
            if (isWord("boy")) return boyItem(night);
            return isWord("cells") && cellsItem(night);
        }

        private boolean boyItem(Night night) {
            if (night.boys >= MOST_BOYS) return false;
            int kind = number(KINDS - 1);
            if (kind == NONE) return false;
            int need = number(MOST_NEED);
            if (need == NONE) return false;
            int jam = number(MOST_JAM);
            if (jam == NONE || !stops()) return false;
            night.comes(kind, need, jam);
            return true;
        }

        private boolean cellsItem(Night night) {
            int boy = number(night.boys - 1);
            if (boy == NONE) return false;
            int j = number(CELLS - 1);
            // A number takes a byte or more, so that the text's end is an end of this, too.
            for (int n = 0; j != NONE && n < length; n++) {
                night.owner[j] = boy;
                j = number(CELLS - 1);
            }
            return token == STOP;
        }

        private boolean stops() {
            next();
            return token == STOP;
        }

        /** The next token's number, or NONE if it is none from 0 to the most. */
        private int number(int most) {
            next();
            if (token != NUMBER) return NONE;
            int value = 0;
            for (int n = start; n < at && n < length; n++) value = 10 * value + bytes[n] - '0';
            return value <= most ? value : NONE;
        }

        private boolean isWord(String word) {
            if (token != WORD || at - start != word.length()) return false;
            for (int n = 0; n < word.length(); n++) {
                if (start + n >= length || bytes[start + n] != word.charAt(n)) return false;
            }
            return true;
        }

        private void next() {
            while (at < length && bytes[at] == ' ') at++;
            start = at;
            token = tokenAt();
        }

        /** What begins at the start; goes on behind it. */
        private int tokenAt() {
            if (at >= length) return END;
            if (isLetter(bytes[at])) {
                while (at < length && isLetter(bytes[at])) at++;
                return WORD;
            }
            if (isFigure(bytes[at])) {
                while (at < length && isFigure(bytes[at])) at++;
                return at - start <= 2 ? NUMBER : WRONG;
            }
            at++;
            return bytes[start] == ';' ? STOP : WRONG;
        }

        private static boolean isLetter(byte c) {
            return c >= 'a' && c <= 'z';
        }

        private static boolean isFigure(byte c) {
            return c >= '0' && c <= '9';
        }
    }
}
