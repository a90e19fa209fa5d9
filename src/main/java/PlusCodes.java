import java.util.Arrays;

/**
 * Reed-Muller codes of lengths 1 to 32: their words, ways to mend hurt words, what the codes are,
 * and a small text that tells codes and words. The document DOC.md says what each call answers.
 */
public final class PlusCodes {
    public static final int NONE = -1, BAD = -2, NO = -3, FULL = -4;

    private static final int BAD_SIGN = 1000, BAD_SOFT = -1000, FAULT_BASE = -10;
    private static final int MOST_LENGTH = 5, MOST_PLACES = 32;
    private static final int MOST_WALKED = 16;
    private static final int MOST_SEED = 999999, MOST_SOFT = 99;
    private static final int MOST_BYTES = 120, MOST_BYTE = 127, MOST_STATES = 8;
    private static final String LETTERS = "cmwfvsh";

    /** All sets of 0 .. 4 in the order of TERMS; those of a shorter length stand in the same order. */
    private static final int[] SETS = {
        0,
        1, 2, 4, 8, 16,
        3, 5, 6, 9, 10, 12, 17, 18, 20, 24,
        7, 11, 13, 14, 19, 21, 22, 25, 26, 28,
        15, 23, 27, 29, 30,
        31
    };

    /** At k: the places whose set is without k. */
    private static final int[] PLACES_WITHOUT = {
        0x55555555, 0x33333333, 0x0f0f0f0f, 0x00ff00ff, 0x0000ffff
    };

    private final State live = new State();
    private final State before = new State();
    private final Past past = new Past();
    private final Text text = new Text();
    private final Ballot ballot = new Ballot();
    private final Halver halver = new Halver();
    private final Merits merits = new Merits();
    private final Walk walk = new Walk();
    private int badTimes;
    private int noTimes;
    private int fullTimes;

    public PlusCodes() {
        live.start(1, 3);
    }

    // ---- code and word

    public int code(int r, int m) {
        if (m < 0 || m > MOST_LENGTH || r < 0 || r > m) {
            return refuseBad(BAD);
        }
        past.keep(live);
        live.start(r, m);
        return live.code.count;
    }

    public int of(int what) {
        Code code = live.code;
        switch (what) {
            case 0: return code.order;
            case 1: return code.length;
            case 2: return code.count;
            case 3: return code.distance();
            case 4: return code.places;
            case 5: return (code.distance() - 1) / 2;
            default: return refuseBad(BAD);
        }
    }

    public int term(int j) {
        if (j < 0) {
            return refuseBad(BAD);
        }
        return j < live.code.count ? live.code.terms[j] : NONE;
    }

    public int word(int w) {
        if ((w & ~live.code.allPlaces()) != 0) {
            return refuseBad(BAD);
        }
        past.keep(live);
        live.word = w;
        return 1;
    }

    public int encode(int message) {
        if ((message & ~live.code.allTerms()) != 0) {
            return refuseBad(BAD);
        }
        past.keep(live);
        live.word = live.code.wordOf(message);
        return weight();
    }

    public int flip(int i) {
        if (!live.code.hasPlace(i)) {
            return refuseBad(BAD);
        }
        past.keep(live);
        live.word ^= 1 << i;
        return live.bit(i);
    }

    public int hurt(int seed, int n) {
        if (seed < 0 || seed > MOST_SEED || n < 0 || n > live.code.places) {
            return refuseBad(BAD);
        }
        past.keep(live);
        live.word ^= drawPlaces(seed, n);
        return weight();
    }

    public int now() {
        return live.word;
    }

    public int at(int i) {
        return live.code.hasPlace(i) ? live.bit(i) : refuseBad(BAD);
    }

    public int weight() {
        return Integer.bitCount(live.word);
    }

    public int isWord() {
        int beyond = live.code.summed(live.word) & ~live.code.termPlaces();
        return beyond == 0 ? 1 : 0;
    }

    public int coefficient(int j) {
        if (!live.code.hasPlace(j)) {
            return refuseBad(BAD);
        }
        return live.code.summed(live.word) >>> live.code.setAt(j) & 1;
    }

    // ---- mending

    public int votes() {
        ballot.hold(live.code, live.word);
        return ballot.message;
    }

    public int vote(int what) {
        ballot.hold(live.code, live.word);
        switch (what) {
            case 0: return Integer.bitCount(live.word ^ ballot.mended);
            case 1: return ballot.ties;
            case 2: return ballot.closest;
            case 3: return ballot.margin;
            default: return refuseBad(BAD);
        }
    }

    public int mends() {
        past.keep(live);
        ballot.hold(live.code, live.word);
        int unlike = Integer.bitCount(live.word ^ ballot.mended);
        live.word = ballot.mended;
        return unlike;
    }

    public int sign(int a) {
        return live.code.hasPlace(a) ? signsFor(a) : refuseBad(BAD_SIGN);
    }

    public int best(int what) {
        if (what < 0 || what > 2) {
            return refuseBad(BAD);
        }
        int farthest = 0;
        int there = signsFor(0);
        int asFar = 1;
        for (int a = 1; a < live.code.places; a++) {
            int signs = signsFor(a);
            if (Math.abs(signs) > Math.abs(there)) {
                farthest = a;
                there = signs;
                asFar = 1;
            } else if (Math.abs(signs) == Math.abs(there)) {
                asFar++;
            }
        }
        if (what == 0) {
            return farthest;
        }
        return what == 1 ? there : asFar;
    }

    public int nearest(int what) {
        if (what < 0 || what > 1) {
            return refuseBad(BAD);
        }
        if (!live.code.canBeWalked()) {
            return refuseNo(NO);
        }
        walk.seek(live.code, live.word);
        return what == 0 ? walk.least : walk.asNear;
    }

    public int near() {
        if (!live.code.canBeWalked()) {
            return refuseNo(0);
        }
        walk.seek(live.code, live.word);
        return walk.found;
    }

    // ---- soft places

    public int soft(int i, int n) {
        if (!live.code.hasPlace(i) || n < -MOST_SOFT || n > MOST_SOFT) {
            return refuseBad(BAD_SOFT);
        }
        past.keep(live);
        int was = live.soft[i];
        live.soft[i] = n;
        return was;
    }

    public int harden(int n) {
        if (n < 1 || n > MOST_SOFT) {
            return refuseBad(BAD);
        }
        past.keep(live);
        for (int i = 0; i < live.code.places; i++) {
            live.soft[i] = live.bit(i) == 0 ? n : -n;
        }
        return n;
    }

    public int halves() {
        return halver.solve(live.code, live.soft);
    }

    public int merit(int what) {
        if (what < 0 || what > 2) {
            return refuseBad(BAD);
        }
        if (what == 2 && !live.code.canBeWalked()) {
            return refuseNo(NO);
        }
        merits.weigh(live.soft);
        if (what == 2) {
            return walk.greatest(live.code, merits);
        }
        return merits.sumFor(what == 0 ? live.word : halves());
    }

    // ---- what codes are

    public int weights(int w) {
        if (w < 0 || w > MOST_PLACES) {
            return refuseBad(BAD);
        }
        if (!live.code.canBeWalked()) {
            return refuseNo(NO);
        }
        return walk.howManyWeigh(live.code, w);
    }

    public int perpendicular() {
        for (int j = 0; j < live.code.count; j++) {
            if (isOdd(live.word & live.code.wordOfTerm(j))) {
                return 0;
            }
        }
        return 1;
    }

    public int asked(int i) {
        if (!live.code.hasPlace(i)) {
            return refuseBad(BAD);
        }
        if (live.code.order == live.code.length) {
            return refuseNo(NO);
        }
        int lead = 0;
        for (int a = 0; a < live.code.places; a++) {
            if (Integer.bitCount(a) == live.code.order + 1) {
                int others = partsOf(a) << (i & ~a) & ~(1 << i);
                lead += isOdd(live.word & others) ? 1 : -1;
            }
        }
        return lead > 0 ? 1 : 0;
    }

    // ---- texts

    public int type(int c) {
        if (c < 0 || c > MOST_BYTE) {
            return refuseBad(BAD);
        }
        if (text.size >= MOST_BYTES) {
            fullTimes++;
            return FULL;
        }
        text.append(c);
        return text.size;
    }

    public int clear() {
        int had = text.size;
        text.size = 0;
        return had;
    }

    public int does() {
        before.copy(live);
        int done = carryOutAll();
        if (text.fault != NONE) {
            live.copy(before);
            return FAULT_BASE - text.fault;
        }
        past.keep(before);
        return done;
    }

    public int back() {
        if (past.count == 0) {
            return refuseNo(NO);
        }
        past.giveBack(live);
        return past.count;
    }

    public int told(int what) {
        switch (what) {
            case 0: return badTimes;
            case 1: return noTimes;
            case 2: return fullTimes;
            case 3: return text.size;
            case 4: return past.count;
            default: return refuseBad(BAD);
        }
    }

    public long digest() {
        long h = 2111;
        for (int what = 0; what < 5; what++) {
            h = 31 * h + told(what);
        }
        h = 31 * h + live.code.order;
        h = 31 * h + live.code.length;
        h = 31 * h + live.word;
        for (int i = 0; i < live.code.places; i++) {
            h = 31 * h + live.soft[i];
        }
        h = 31 * h + votes();
        return 31 * h + halves();
    }

    // ---- what the calls share

    private int refuseBad(int answer) {
        badTimes++;
        return answer;
    }

    private int refuseNo(int answer) {
        noTimes++;
        return answer;
    }

    private int drawPlaces(int seed, int n) {
        int last = live.code.places - 1;
        int drawn = 0;
        long x = seed;
        for (int k = 0; k < n; k++) {
            x = x * 1103515245L + 12345L & 0x7fffffffL;
            int place = (int) (x >>> 16) & last;
            for (int tries = 0; tries < last && (drawn >>> place & 1) == 1; tries++) {
                place = place + 1 & last;
            }
            drawn |= 1 << place;
        }
        return drawn;
    }

    private int signsFor(int a) {
        int signs = 0;
        for (int i = 0; i < live.code.places; i++) {
            int parity = isOdd(a & i) ? 1 : 0;
            signs += live.bit(i) == parity ? 1 : -1;
        }
        return signs;
    }

    /** Works on the live state as it reads: does() puts the state back when there is a fault. */
    private int carryOutAll() {
        text.rewind();
        for (int done = 1; done <= MOST_BYTES; done++) {
            carryOutNext();
            if (text.fault != NONE || text.isAtEnd()) {
                return done;
            }
        }
        return MOST_BYTES;
    }

    private void carryOutNext() {
        switch (text.readOneOf(LETTERS)) {
            case 'c': orderCode(); break;
            case 'm': live.word = live.code.wordOf(text.readHex(live.code.allTerms())); break;
            case 'w': live.word = text.readHex(live.code.allPlaces()); break;
            case 'f': live.word ^= 1 << text.readNumber(0, live.code.places - 1); break;
            case 'v': ballot.hold(live.code, live.word); live.word = ballot.mended; break;
            case 's': orderSoft(); break;
            case 'h': live.word = halver.solve(live.code, live.soft); break;
            default: return;
        }
        text.readOneOf(";");
    }

    private void orderCode() {
        int r = text.readNumber(0, MOST_LENGTH);
        int m = text.readNumber(r, MOST_LENGTH);
        live.start(r, m);
    }

    private void orderSoft() {
        int i = text.readNumber(0, live.code.places - 1);
        live.soft[i] = text.readNumber(-MOST_SOFT, MOST_SOFT);
    }

    private static boolean isOdd(int bits) {
        return (Integer.bitCount(bits) & 1) == 1;
    }

    /** The places that are parts of a set. */
    private static int partsOf(int set) {
        int parts = 1;
        for (int k = 0; k < MOST_LENGTH; k++) {
            if ((set >>> k & 1) == 1) {
                parts |= parts << (1 << k);
            }
        }
        return parts;
    }

    /** The lowest bits, 1 .. 32 of them; a shift by 32 would be none, so it goes from above. */
    private static int lowest(int many) {
        return -1 >>> MOST_PLACES - many;
    }

    /** An order and a length with what follows from them. */
    private static final class Code {
        int order;
        int length;
        int places;
        int count;
        final int[] terms = new int[MOST_PLACES];

        void become(int r, int m) {
            order = r;
            length = m;
            places = 1 << m;
            count = 0;
            for (int set : SETS) {
                if (set < places && Integer.bitCount(set) <= r) {
                    terms[count] = set;
                    count++;
                }
            }
        }

        int distance() {
            return 1 << length - order;
        }

        int allPlaces() {
            return lowest(places);
        }

        int allTerms() {
            return lowest(count);
        }

        boolean hasPlace(int i) {
            return i >= 0 && i < places;
        }

        boolean canBeWalked() {
            return count <= MOST_WALKED;
        }

        /** At each place the sum of the bits at all its parts; done twice, it is as it was. */
        int summed(int bits) {
            int sums = bits;
            for (int k = 0; k < length; k++) {
                sums ^= (sums & PLACES_WITHOUT[k]) << (1 << k);
            }
            return sums;
        }

        int wordOfTerm(int j) {
            return summed(1 << terms[j]);
        }

        int wordOf(int message) {
            int chosen = 0;
            for (int j = 0; j < count; j++) {
                chosen |= (message >>> j & 1) << terms[j];
            }
            return summed(chosen);
        }

        int termPlaces() {
            int bits = 0;
            for (int j = 0; j < count; j++) {
                bits |= 1 << terms[j];
            }
            return bits;
        }

        /** The j-th of all sets of this length, as a code of the greatest order has them. */
        int setAt(int j) {
            int ahead = 0;
            for (int set : SETS) {
                if (set < places) {
                    if (ahead == j) {
                        return set;
                    }
                    ahead++;
                }
            }
            return 0;
        }
    }

    /** All that can be gone back to. */
    private static final class State {
        final Code code = new Code();
        final int[] soft = new int[MOST_PLACES];
        int word;

        void start(int r, int m) {
            code.become(r, m);
            word = 0;
            Arrays.fill(soft, 0);
        }

        void copy(State from) {
            code.become(from.code.order, from.code.length);
            word = from.word;
            System.arraycopy(from.soft, 0, soft, 0, MOST_PLACES);
        }

        int bit(int i) {
            return word >>> i & 1;
        }
    }

    /** The last states, in a ring whose places are used again. */
    private static final class Past {
        private final State[] ring = new State[MOST_STATES];
        private int next;
        int count;

        Past() {
            for (int k = 0; k < MOST_STATES; k++) {
                ring[k] = new State();
            }
        }

        void keep(State state) {
            ring[next].copy(state);
            next = (next + 1) % MOST_STATES;
            count = Math.min(count + 1, MOST_STATES);
        }

        void giveBack(State state) {
            if (count > 0) {
                next = (next + MOST_STATES - 1) % MOST_STATES;
                count--;
                state.copy(ring[next]);
            }
        }
    }

    /** VOTES for a word. */
    private static final class Ballot {
        int message;
        int mended;
        int ties;
        int closest;
        int margin;

        void hold(Code code, int word) {
            message = 0;
            mended = 0;
            ties = 0;
            closest = NONE;
            margin = MOST_PLACES + 1;
            for (int members = code.order; members >= 0; members--) {
                mended ^= wordVoted(code, word ^ mended, members);
            }
        }

        /** Votes on all terms of that many members; they see the same rest. */
        private int wordVoted(Code code, int rest, int members) {
            int chosen = 0;
            for (int j = 0; j < code.count; j++) {
                int term = code.terms[j];
                if (Integer.bitCount(term) == members && isCarried(code, rest, term)) {
                    message |= 1 << j;
                    chosen |= 1 << term;
                }
            }
            return code.summed(chosen);
        }

        private boolean isCarried(Code code, int rest, int term) {
            int parts = partsOf(term);
            int lead = 0;
            for (int b = 0; b < code.places; b++) {
                if ((b & term) == 0) {
                    lead += isOdd(rest & parts << b) ? 1 : -1;
                }
            }
            if (lead == 0) {
                ties++;
            }
            if (Math.abs(lead) < margin) {
                margin = Math.abs(lead);
                closest = term;
            }
            return lead > 0;
        }
    }

    /** HALVES; a row for each length, as v is done before u needs the row of the same length. */
    private static final class Halver {
        private final int[][] rows = new int[MOST_LENGTH + 1][MOST_PLACES];

        int solve(Code code, int[] soft) {
            System.arraycopy(soft, 0, rows[code.length], 0, code.places);
            return wordFor(code.order, code.length);
        }

        /** For the numbers in the row of length m; m falls with each level, 0 < r < m where it goes on. */
        private int wordFor(int r, int m) {
            if (r <= 0) {
                return allAlike(m);
            }
            if (r >= m) {
                return eachAlone(m);
            }
            putLesser(m);
            int v = wordFor(r - 1, m - 1);
            putTogether(m, v);
            int u = wordFor(r, m - 1);
            return u | (u ^ v) << (1 << m - 1);
        }

        private int allAlike(int m) {
            int places = 1 << m;
            int together = 0;
            for (int i = 0; i < places; i++) {
                together += rows[m][i];
            }
            return together >= 0 ? 0 : lowest(places);
        }

        private int eachAlone(int m) {
            int word = 0;
            for (int i = 0; i < 1 << m; i++) {
                if (rows[m][i] < 0) {
                    word |= 1 << i;
                }
            }
            return word;
        }

        private void putLesser(int m) {
            int half = 1 << m - 1;
            for (int i = 0; i < half; i++) {
                int lower = rows[m][i];
                int upper = rows[m][i + half];
                int lesser = Math.min(Math.abs(lower), Math.abs(upper));
                rows[m - 1][i] = lower < 0 == upper < 0 ? lesser : -lesser;
            }
        }

        private void putTogether(int m, int v) {
            int half = 1 << m - 1;
            for (int i = 0; i < half; i++) {
                int upper = rows[m][i + half];
                rows[m - 1][i] = rows[m][i] + ((v >>> i & 1) == 1 ? -upper : upper);
            }
        }
    }

    /** MERIT of any word by four rows, one for each byte of it: a walk asks for 65536 of them. */
    private static final class Merits {
        private static final int ROW = 256;
        private final int[] sums = new int[4 * ROW];

        void weigh(int[] soft) {
            for (int part = 0; part < 4; part++) {
                int start = part * ROW;
                sums[start] = 0;
                for (int k = 0; k < 8; k++) {
                    sums[start] += soft[8 * part + k];
                }
                for (int bits = 1; bits < ROW; bits++) {
                    int k = Integer.numberOfTrailingZeros(bits) & 7;
                    sums[start + bits] = sums[start + (bits & bits - 1)] - 2 * soft[8 * part + k];
                }
            }
        }

        int sumFor(int word) {
            return sums[word & 255]
                + sums[ROW + (word >>> 8 & 255)]
                + sums[2 * ROW + (word >>> 16 & 255)]
                + sums[3 * ROW + (word >>> 24)];
        }
    }

    /** Goes through all words of a code that can be walked, by their messages. */
    private static final class Walk {
        /** At k: what a word changes by when its message grows and k is the bit that becomes 1. */
        private final int[] steps = new int[MOST_WALKED];
        private int messages;
        private int word;
        int least;
        int asNear;
        int found;

        void seek(Code code, int from) {
            prepare(code);
            least = MOST_PLACES + 1;
            for (int message = 0; message < messages; message++) {
                stepTo(message);
                int unlike = Integer.bitCount(word ^ from);
                if (unlike < least) {
                    least = unlike;
                    asNear = 1;
                    found = word;
                } else if (unlike == least) {
                    asNear++;
                }
            }
        }

        int howManyWeigh(Code code, int w) {
            prepare(code);
            int many = 0;
            for (int message = 0; message < messages; message++) {
                stepTo(message);
                if (Integer.bitCount(word) == w) {
                    many++;
                }
            }
            return many;
        }

        int greatest(Code code, Merits merits) {
            prepare(code);
            int most = merits.sumFor(0);
            for (int message = 0; message < messages; message++) {
                stepTo(message);
                most = Math.max(most, merits.sumFor(word));
            }
            return most;
        }

        private void prepare(Code code) {
            int known = Math.min(code.count, MOST_WALKED);
            int together = 0;
            for (int j = 0; j < known; j++) {
                together ^= code.wordOfTerm(j);
                steps[j] = together;
            }
            messages = 1 << known;
            word = 0;
        }

        private void stepTo(int message) {
            int k = Integer.numberOfTrailingZeros(message);
            if (k < MOST_WALKED) {
                word ^= steps[k];
            }
        }
    }

    /** THE TEXT and how far it is read; of the faults found only the first is kept. */
    private static final class Text {
        private final byte[] bytes = new byte[MOST_BYTES];
        private int next;
        int size;
        int fault = NONE;

        void append(int c) {
            if (size < MOST_BYTES) {
                bytes[size] = (byte) c;
                size++;
            }
        }

        void rewind() {
            next = 0;
            fault = NONE;
        }

        boolean isAtEnd() {
            skipBlanks();
            return next >= size;
        }

        int readOneOf(String wanted) {
            if (isAtEnd() || wanted.indexOf((char) bytes[next]) < 0) {
                failAt(next);
                return NONE;
            }
            next++;
            return bytes[next - 1];
        }

        /** A number of these bounds, with a - perhaps if they go below 0; by a fault the lower bound. */
        int readNumber(int low, int high) {
            skipBlanks();
            int start = next;
            boolean minus = low < 0 && next < size && bytes[next] == '-';
            if (minus) {
                next++;
            }
            int first = next;
            int value = 0;
            while (next < size && bytes[next] >= '0' && bytes[next] <= '9') {
                value = 10 * value + bytes[next] - '0';
                next++;
            }
            int figures = next - first;
            int number = minus ? -value : value;
            if (figures < 1 || figures > 2 || number < low || number > high) {
                failAt(start);
                return low;
            }
            return number;
        }

        /** A hexadecimal number without bits beyond those allowed; by a fault 0. */
        int readHex(int allowed) {
            skipBlanks();
            int start = next;
            int value = 0;
            while (next < size && hexValue(bytes[next]) >= 0) {
                value = value << 4 | hexValue(bytes[next]);
                next++;
            }
            int figures = next - start;
            if (figures < 1 || figures > 8 || (value & ~allowed) != 0) {
                failAt(start);
                return 0;
            }
            return value;
        }

        private static int hexValue(int c) {
            if (c >= '0' && c <= '9') {
                return c - '0';
            }
            return c >= 'a' && c <= 'f' ? c - 'a' + 10 : NONE;
        }

        private void skipBlanks() {
            while (next < size && bytes[next] == ' ') {
                next++;
            }
        }

        private void failAt(int place) {
            if (fault == NONE) {
                fault = place;
            }
        }
    }
}
