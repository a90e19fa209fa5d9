import java.math.BigInteger;
import java.util.function.IntUnaryOperator;
import java.util.function.Supplier;
import java.util.function.ToLongFunction;

/**
 * Each sentence of the document that names a boundary case of a call, from both sides: the last argument that is
 * taken, the first that is refused, full and one less, empty, the step that wraps around. Behind each call all that
 * can be seen of the object is looked at. Texts are in TextBoundaryTest.
 */
public final class BoundaryTest {
    private static final Checks CHECKS = new Checks();
    private static final Looks LOOKS = new Looks(CHECKS);
    private static final int NONE = -1;
    private static final int BAD = -2;
    private static final int NO = -3;
    private static final int LOW = Integer.MIN_VALUE;
    private static final int HIGH = Integer.MAX_VALUE;
    private static final int BY_BAD = 0;
    private static final int BY_NO = 1;
    private static final int[][] TERM_COUNTS = {
        {1}, {1, 2}, {1, 3, 4}, {1, 4, 7, 8}, {1, 5, 11, 15, 16}, {1, 6, 16, 26, 31, 32}
    };

    private interface OnCode {
        void look(int r, int m);
    }

    /** A call with one number. */
    private interface Call {
        long on(PlusCodes x, int n);
    }

    public static void main(String[] args) {
        atFirst();
        codeBounds();
        ofBounds();
        terms();
        wordBits();
        messageBits();
        placeBounds();
        seeds();
        drawnHowMany();
        drawGoesOnAtNought();
        drawLeftOver();
        weightEdges();
        wordsOfEdgeOrders();
        plusConstruction();
        coefficientsAreOfAllTerms();
        ties();
        votesFromManyMembersDown();
        voteBounds();
        mendsWithoutChange();
        signEdges();
        bestEdges();
        walkedCodes();
        nearestEdges();
        softBounds();
        hardenBounds();
        halvesEdges();
        meritEdges();
        weightsBounds();
        perpendicularEdges();
        askedEdges();
        CHECKS.end();
    }

    // ---- helpers

    private static void due(String call, long got, long want) {
        CHECKS.due(call, got, want);
    }

    private static void eachCode(OnCode look) {
        for (int m = 0; m <= 5; m++) {
            for (int r = 0; r <= m; r++) {
                look.look(r, m);
            }
        }
    }

    private static String on(String call, int r, int m) {
        return call + " on order " + r + ", length " + m;
    }

    private static void refused(String call, int r, int m, ToLongFunction<PlusCodes> asked, int answer, int kind) {
        for (Supplier<PlusCodes> made : Looks.homes(r, m)) {
            LOOKS.refused(on(call, r, m), made, asked, answer, kind);
        }
    }

    private static void refusedEach(String name, int r, int m, Call call, int answer, int... wrong) {
        for (int n : wrong) {
            refused(name + "(" + n + ")", r, m, x -> call.on(x, n), answer, BY_BAD);
        }
    }

    /** What is due is asked of the object as it is before the call. */
    private static void asks(String call, int r, int m, ToLongFunction<PlusCodes> asked, ToLongFunction<PlusCodes> answer) {
        for (Supplier<PlusCodes> made : Looks.homes(r, m)) {
            LOOKS.asks(on(call, r, m), made, asked, answer.applyAsLong(made.get()));
        }
    }

    private static void leaves(String call, int r, int m, ToLongFunction<PlusCodes> asked, ToLongFunction<PlusCodes> answer) {
        for (Supplier<PlusCodes> made : Looks.homes(r, m)) {
            LOOKS.leaves(on(call, r, m), made, asked, answer.applyAsLong(made.get()));
        }
    }

    private static PlusCodes with(int r, int m, int word) {
        PlusCodes x = Looks.bare(r, m);
        x.word(word);
        return x;
    }

    private static PlusCodes softly(int r, int m, int... numbers) {
        PlusCodes x = Looks.bare(r, m);
        for (int i = 0; i < numbers.length; i++) {
            x.soft(i, numbers[i]);
        }
        return x;
    }

    private static int lowest(int many) {
        return many == 32 ? -1 : (1 << many) - 1;
    }

    private static int bit(int word, int i) {
        return word >> i & 1;
    }

    private static boolean isEven(int word) {
        return Integer.bitCount(word) % 2 == 0;
    }

    private static void allAre(String name, PlusCodes x, IntUnaryOperator call, int... due) {
        for (int n = 0; n < due.length; n++) {
            due(name + "(" + n + ")", call.applyAsInt(n), due[n]);
        }
        due("told(0)", x.told(0), 0);
        due("told(1)", x.told(1), 0);
    }

    // ---- 1 to 4

    private static void atFirst() {
        CHECKS.part("1 'r 1, m 3 at first', 'THE WORD is 0', '0 at first'");
        PlusCodes x = new PlusCodes();
        allAre("of", x, x::of, 1, 3, 4, 4, 8, 1);
        allAre("told", x, x::told, 0, 0, 0, 0, 0);
        allAre("at", x, x::at, 0, 0, 0, 0, 0, 0, 0, 0);
        due("now()", x.now(), 0);
        for (int i = 0; i < 8; i++) {
            int place = i;
            LOOKS.leaves("soft(" + i + ", -1) at first", PlusCodes::new, y -> y.soft(place, -1), 0);
        }
        LOOKS.refused("at(8) at first", PlusCodes::new, y -> y.at(8), BAD, BY_BAD);
        LOOKS.refused("back() at first", PlusCodes::new, PlusCodes::back, NO, BY_NO);
        LOOKS.asks("does() at first", PlusCodes::new, PlusCodes::does, -10);
        LOOKS.asks("clear() at first", PlusCodes::new, PlusCodes::clear, 0);
    }

    private static void codeBounds() {
        CHECKS.part("2 '0 .. 5 for m, r 0 .. m'");
        int[] some = {LOW, -32, -1, 0, 1, 2, 3, 4, 5, 6, 7, 32, HIGH};
        for (int r : some) {
            for (int m : some) {
                String call = "code(" + r + ", " + m + ")";
                boolean taken = m >= 0 && m <= 5 && r >= 0 && r <= m;
                for (int home = 0; home <= 5; home += 5) {
                    if (taken) {
                        leaves(call, home, home, x -> x.code(r, m), x -> TERM_COUNTS[m][r]);
                    } else {
                        refused(call, home, home, x -> x.code(r, m), BAD, BY_BAD);
                    }
                }
            }
        }
        CHECKS.part("2 'THE WORD is 0, all SOFT PLACES are 0'");
        eachCode(BoundaryTest::codeMakesAllNought);
    }

    private static void codeMakesAllNought(int r, int m) {
        for (Supplier<PlusCodes> made : Looks.homes(r, m)) {
            PlusCodes x = made.get();
            int bytes = x.told(3);
            x.code(r, m);
            due(on("now()", r, m), x.now(), 0);
            due(on("told(3): THE TEXT stays", r, m), x.told(3), bytes);
            for (int i = 0; i < 1 << m; i++) {
                due(on("soft(" + i + ", 0)", r, m), x.soft(i, 0), 0);
            }
            x.code(5, 5);
            for (int i = 0; i < 32; i++) {
                due(on("soft(" + i + ", 0) of a longer one then", r, m), x.soft(i, 0), 0);
            }
        }
    }

    private static void ofBounds() {
        CHECKS.part("3 'r (0) .. (5)', 'DISTANCE less 1, by 2, cut'");
        eachCode((r, m) -> {
            int distance = new int[] {1, 2, 4, 8, 16, 32}[m - r];
            int[] due = {r, m, TERM_COUNTS[m][r], distance, new int[] {1, 2, 4, 8, 16, 32}[m], new int[] {0, 0, 1, 3, 7, 15}[m - r]};
            for (int what = 0; what < 6; what++) {
                int n = what;
                asks("of(" + n + ")", r, m, x -> x.of(n), x -> due[n]);
            }
        });
        for (int m = 0; m <= 5; m += 5) {
            refusedEach("of", m, m, PlusCodes::of, BAD, -1, 6, LOW, HIGH);
        }
    }

    private static void terms() {
        CHECKS.part("4 'NONE: not so many', 'BAD: j below 0'");
        eachCode((r, m) -> {
            int many = TERM_COUNTS[m][r];
            asks("term of the first", r, m, x -> x.term(0), x -> 0);
            asks("term of the last, of r members", r, m, x -> x.term(many - 1), x -> lowest(r) << m - r);
            asks("term of one more", r, m, x -> x.term(many), x -> NONE);
            asks("term(32)", r, m, x -> x.term(32), x -> NONE);
            asks("term of the greatest int", r, m, x -> x.term(HIGH), x -> NONE);
            refusedEach("term", r, m, PlusCodes::term, BAD, -1, LOW);
            termsInOrder(r, m);
        });
    }

    private static void termsInOrder(int r, int m) {
        PlusCodes x = Looks.bare(r, m);
        for (int j = 1; j < TERM_COUNTS[m][r]; j++) {
            int members = Integer.bitCount(x.term(j)) - Integer.bitCount(x.term(j - 1));
            CHECKS.holds(on("term(" + j + ") is behind the one ahead", r, m),
                members == 1 || members == 0 && x.term(j) > x.term(j - 1));
            CHECKS.holds(on("term(" + j + ") is of this length", r, m), x.term(j) < 1 << m);
        }
    }

    // ---- 5 to 8

    private static void wordBits() {
        CHECKS.part("5 'bits beyond PLACES have to be 0'");
        eachCode((r, m) -> {
            int places = 1 << m;
            for (int w : new int[] {0, 1, 1 << places - 1, lowest(places)}) {
                leaves("word(" + w + ")", r, m, x -> x.word(w), x -> 1);
                due(on("now()", r, m), with(r, m, w).now(), w);
            }
            for (int i = places; i < 32; i++) {
                refusedEach("word", r, m, PlusCodes::word, BAD, 1 << i);
            }
            if (places < 32) {
                refusedEach("word", r, m, PlusCodes::word, BAD, -1, lowest(places) + 1 | 1, LOW | 1, HIGH);
            }
        });
    }

    private static void messageBits() {
        CHECKS.part("6 'bits beyond K have to be 0'");
        eachCode((r, m) -> {
            int many = TERM_COUNTS[m][r];
            for (int message : new int[] {0, 1, 1 << many - 1, lowest(many)}) {
                leaves("encode(" + message + ")", r, m, x -> x.encode(message), x -> Integer.bitCount(wordOf(message, r, m)));
                PlusCodes x = Looks.crowded(r, m);
                x.encode(message);
                due(on("now()", r, m), x.now(), wordOf(message, r, m));
            }
            for (int j = many; j < 32; j++) {
                refusedEach("encode", r, m, PlusCodes::encode, BAD, 1 << j);
            }
            if (many < 32) {
                refusedEach("encode", r, m, PlusCodes::encode, BAD, -1, lowest(many) + 1 | 1, LOW | 1);
            }
        });
    }

    /** By the document's first sentence on it: at each place the sum over all terms that are part of it. */
    private static int wordOf(int message, int r, int m) {
        PlusCodes x = Looks.bare(r, m);
        int word = 0;
        for (int i = 0; i < 1 << m; i++) {
            for (int j = 0; j < TERM_COUNTS[m][r]; j++) {
                if (bit(message, j) == 1 && (x.term(j) | i) == i) {
                    word ^= 1 << i;
                }
            }
        }
        return word;
    }

    private static void placeBounds() {
        CHECKS.part("'PLACES 0 .. 2 to the m less 1' for each call with a PLACE");
        eachCode((r, m) -> {
            int last = (1 << m) - 1;
            int[] wrong = {LOW, -32, -1, last + 1, last + 2, 32, 33, 64, HIGH, HIGH - 31, LOW + 1};
            for (int i : new int[] {0, last}) {
                leaves("flip(" + i + ")", r, m, x -> x.flip(i), x -> 1 - bit(x.now(), i));
                leaves("soft(" + i + ", 5)", r, m, x -> x.soft(i, 5), x -> x.soft(i, 0));
                asks("at(" + i + ")", r, m, x -> x.at(i), x -> bit(x.now(), i));
                asks("sign(" + i + ")", r, m, x -> x.sign(i), x -> signs(x.now(), i, m));
                asks("coefficient(" + i + ")", r, m, x -> x.coefficient(i), x -> i == 0 ? bit(x.now(), 0) : x.weight() % 2);
                if (r < m) {
                    asks("asked(" + i + ")", r, m, x -> x.asked(i), x -> askedOf(x.now(), i, r, m));
                }
            }
            refusedEach("flip", r, m, PlusCodes::flip, BAD, wrong);
            refusedEach("at", r, m, PlusCodes::at, BAD, wrong);
            refusedEach("sign", r, m, PlusCodes::sign, 1000, wrong);
            refusedEach("coefficient", r, m, PlusCodes::coefficient, BAD, wrong);
            refusedEach("asked", r, m, PlusCodes::asked, BAD, wrong);
            refusedEach("soft with 5 at", r, m, (x, i) -> x.soft(i, 5), -1000, wrong);
        });
    }

    private static int signs(int word, int a, int m) {
        int sum = 0;
        for (int i = 0; i < 1 << m; i++) {
            sum += bit(word, i) == Integer.bitCount(a & i) % 2 ? 1 : -1;
        }
        return sum;
    }

    private static int askedOf(int word, int i, int r, int m) {
        int lead = 0;
        for (int set = 0; set < 1 << m; set++) {
            if (Integer.bitCount(set) == r + 1) {
                int sum = 0;
                for (int some = 1; some <= set; some++) {
                    sum += (some | set) == set ? bit(word, i ^ some) : 0;
                }
                lead += sum % 2 == 1 ? 1 : -1;
            }
        }
        return lead > 0 ? 1 : 0;
    }

    private static void seeds() {
        CHECKS.part("8 'SEED (0 .. 999999)'");
        eachCode((r, m) -> {
            for (int seed : new int[] {0, 1, 999998, 999999}) {
                leaves("hurt(" + seed + ", 1)", r, m, x -> x.hurt(seed, 1), x -> Integer.bitCount(x.now() ^ drawn(seed, 1, m)));
            }
            refusedEach("hurt of 1 by", r, m, (x, seed) -> x.hurt(seed, 1), BAD, -1, 1000000, LOW, HIGH);
            refusedEach("hurt of 0 by", r, m, (x, seed) -> x.hurt(seed, 0), BAD, -1, 1000000);
        });
    }

    /** The sentence on the draw, with numbers that can not overflow. */
    private static int drawn(int seed, int n, int m) {
        int places = 1 << m;
        int word = 0;
        BigInteger x = BigInteger.valueOf(seed);
        for (int k = 0; k < n; k++) {
            x = x.multiply(BigInteger.valueOf(1103515245)).add(BigInteger.valueOf(12345)).mod(BigInteger.valueOf(2147483648L));
            int place = x.divide(BigInteger.valueOf(65536)).mod(BigInteger.valueOf(places)).intValue();
            while (bit(word, place) == 1) {
                place = place == places - 1 ? 0 : place + 1;
            }
            word |= 1 << place;
        }
        return word;
    }

    private static void drawnHowMany() {
        CHECKS.part("8 'each once, n 0 .. PLACES of them'");
        eachCode((r, m) -> {
            int places = 1 << m;
            for (int n : new int[] {0, 1, places - 1, places}) {
                leaves("hurt(4711, " + n + ")", r, m, x -> x.hurt(4711, n), x -> Integer.bitCount(x.now() ^ drawn(4711, n, m)));
                PlusCodes x = Looks.bare(r, m);
                due(on("hurt(4711, " + n + ") of the word 0", r, m), x.hurt(4711, n), n);
                due(on("now()", r, m), x.now(), drawn(4711, n, m));
            }
            refusedEach("hurt by 4711 of", r, m, (x, n) -> x.hurt(4711, n), BAD, -1, places + 1, 33, LOW, HIGH);
        });
    }

    private static void drawGoesOnAtNought() {
        CHECKS.part("8 'the next one (0 behind the last) that is not'");
        int[][] twiceTheLast = {{1, 3}, {1, 5}, {2, 55}, {2, 161}, {3, 161}, {3, 794}, {4, 794}};
        for (int[] d : twiceTheLast) {
            int last = (1 << d[0]) - 1;
            due("hurt(" + d[1] + ", 1), length " + d[0], hurtWord(d[0], d[1], 1), 1 << last);
            due("hurt(" + d[1] + ", 2): 0 behind the last", hurtWord(d[0], d[1], 2), 1 << last | 1);
            if (d[0] > 1) {
                due("hurt(" + d[1] + ", 3): then 1", hurtWord(d[0], d[1], 3), 1 << last | 3);
            }
        }
        // X is 1870621933, 952092450, 1050695091: 31, 31 and 0 by 32, so 31, 0, 1
        due("hurt(12036, 1) of 32 places", hurtWord(5, 12036, 1), LOW);
        due("hurt(12036, 2) of 32 places", hurtWord(5, 12036, 2), LOW | 1);
        due("hurt(12036, 3) of 32 places", hurtWord(5, 12036, 3), LOW | 3);
        due("hurt(9, 1) of one place", hurtWord(0, 9, 1), 1);
    }

    private static int hurtWord(int m, int seed, int n) {
        PlusCodes x = Looks.bare(0, m);
        x.hurt(seed, n);
        return x.now();
    }

    private static void drawLeftOver() {
        CHECKS.part("8 'by 2147483648 what is left over'");
        // seed 1: X is 1103527590, nothing to leave over; seed 2: 2207042835 leaves 59559187
        due("hurt(1, 1)", hurtWord(5, 1, 1), 1 << 6);
        due("hurt(2, 1)", hurtWord(5, 2, 1), 1 << 12);
        due("hurt(2, 4)", hurtWord(5, 2, 4), 1 << 12 | 1 << 1 | 1 << 31 | 1 << 18);
        due("hurt(999999, 4)", hurtWord(5, 999999, 4), 1 << 8 | 1 << 22 | 1 << 23 | 1 << 31);
        for (int seed = 0; seed < 1000000; seed += seed < 2000 ? 1 : 997) {
            due("hurt(" + seed + ", 20)", hurtWord(5, seed, 20), drawn(seed, 20, 5));
        }
    }

    // ---- 11 to 13

    private static void weightEdges() {
        CHECKS.part("9 to 11 now, at, weight of no ones and of all");
        eachCode((r, m) -> {
            int places = 1 << m;
            due(on("weight() of none", r, m), with(r, m, 0).weight(), 0);
            due(on("weight() of all", r, m), with(r, m, lowest(places)).weight(), places);
            due(on("weight() of the last", r, m), with(r, m, 1 << places - 1).weight(), 1);
            due(on("now() of all", r, m), with(r, m, lowest(places)).now(), lowest(places));
            due(on("at() of the last", r, m), with(r, m, 1 << places - 1).at(places - 1), 1);
            due(on("at() of the first", r, m), with(r, m, lowest(places) - 1).at(0), 0);
            asks("now()", r, m, PlusCodes::now, PlusCodes::now);
            asks("weight()", r, m, PlusCodes::weight, x -> Integer.bitCount(x.now()));
        });
    }

    private static void wordsOfEdgeOrders() {
        CHECKS.part("12 isWord for r 0, r as m less 1, r as m");
        for (int m = 0; m <= 5; m++) {
            int all = lowest(1 << m);
            for (int seed = 0; seed < 40; seed++) {
                int w = drawn(seed, seed % ((1 << m) + 1), m);
                due(on("isWord()", m, m), with(m, m, w).isWord(), 1);
                if (m > 0) {
                    due(on("isWord() of " + w, m - 1, m), with(m - 1, m, w).isWord(), isEven(w) ? 1 : 0);
                }
                due(on("isWord() of " + w, 0, m), with(0, m, w).isWord(), w == 0 || w == all ? 1 : 0);
            }
        }
        eachCode((r, m) -> {
            for (int j = 0; j < TERM_COUNTS[m][r]; j++) {
                PlusCodes x = Looks.bare(r, m);
                x.encode(1 << j);
                due(on("isWord() of term " + j, r, m), x.isWord(), 1);
                x.flip((1 << m) - 1);
                due(on("isWord() of it with the last place wrong", r, m), x.isWord(), r == m ? 1 : 0);
            }
            if (r < m) {
                due(on("isWord() of the least product that is too great", r, m),
                    with(r, m, wordOf(1 << TERM_COUNTS[m][r], r + 1, m)).isWord(), 0);
            }
            asks("isWord()", r, m, PlusCodes::isWord, x -> isOfCode(x.now(), r, m) ? 1 : 0);
        });
    }

    /** By halves, as the document tells it: of no order at all only 0 is a word, and m 0 has no halves. */
    private static boolean isOfCode(int word, int r, int m) {
        if (r < 0) {
            return word == 0;
        }
        if (m == 0) {
            return true;
        }
        int half = 1 << m - 1;
        int u = word & lowest(half);
        int v = u ^ word >>> half & lowest(half);
        return isOfCode(u, Math.min(r, m - 1), m - 1) && isOfCode(v, r - 1, m - 1);
    }

    private static void plusConstruction() {
        CHECKS.part("'u in the lower half of PLACES and u and v, bit by bit unlike, in the upper one'");
        eachCode((r, m) -> {
            if (m > 0) {
                for (int n = 0; n < 30; n++) {
                    int u = someWord(Math.min(r, m - 1), m - 1, n);
                    int v = r == 0 ? 0 : someWord(r - 1, m - 1, 7 * n + 1);
                    due(on("isWord() of u and u upon v", r, m), with(r, m, u | (u ^ v) << (1 << m - 1)).isWord(), 1);
                }
            }
        });
    }

    private static int someWord(int r, int m, int n) {
        PlusCodes x = Looks.bare(r, m);
        x.encode(n * 0x5bd1e995 & lowest(x.of(2)));
        return x.now();
    }

    private static void coefficientsAreOfAllTerms() {
        CHECKS.part("13 'of all TERMS of a CODE of order m and this length (the greatest)'");
        eachCode((r, m) -> {
            int places = 1 << m;
            for (int j = 0; j < places; j++) {
                PlusCodes x = with(r, m, wordOf(1 << j, m, m));
                for (int k = 0; k < places; k++) {
                    due(on("coefficient(" + k + ") of term " + j, r, m), x.coefficient(k), j == k ? 1 : 0);
                }
                due(on("told(0)", r, m), x.told(0), 0);
            }
        });
    }

    // ---- 14 to 16

    private static void ties() {
        CHECKS.part("14 'more of them being 1 than 0', 'a TIE counts: it is 0'");
        for (int m = 0; m <= 5; m++) {
            int places = 1 << m;
            for (int ones = 0; ones <= places; ones++) {
                PlusCodes x = with(0, m, lowest(ones));
                boolean more = 2 * ones > places;
                due(on("votes() with " + ones + " ones", 0, m), x.votes(), more ? 1 : 0);
                allAre("vote", x, x::vote, more ? places - ones : ones, 2 * ones == places ? 1 : 0, 0, Math.abs(places - 2 * ones));
            }
        }
        CHECKS.part("14 a TIE of a TERM with members");
        // terms 1 and 2 of order 1, length 2: two stretches each
        int[][] due = {
            {0b0000, 0, 0, 0, 1, 2}, {0b0001, 0, 1, 2, 1, 0}, {0b1010, 2, 0, 0, 1, 2}, {0b1011, 1, 1, 2, 1, 0},
            {0b0110, 6, 0, 0, 1, 2}, {0b1111, 1, 0, 0, 1, 2}
        };
        for (int[] d : due) {
            PlusCodes x = with(1, 2, d[0]);
            due("votes() of " + d[0], x.votes(), d[1]);
            allAre("vote of " + d[0] + " ", x, x::vote, d[2], d[3], d[4], d[5]);
        }
        CHECKS.part("14 r as m: one STRETCH decides, no TIE");
        for (int w = 0; w < 16; w++) {
            PlusCodes x = with(2, 2, w);
            due("the word of votes() of " + w, wordOf(x.votes(), 2, 2), w);
            allAre("vote", x, x::vote, 0, 0, 3, 1);
        }
    }

    private static void votesFromManyMembersDown() {
        CHECKS.part("14 'from the members r down to 0', 'when all of that many members are done .. taken off'");
        // both terms of one member are 1: were the first taken off at once, the second had the same stretches;
        // term 0 sees 0 alone if they were taken off, 2 of 4 if not
        PlusCodes x = with(1, 2, 0b0110);
        due("votes()", x.votes(), 6);
        allAre("vote", x, x::vote, 0, 0, 1, 2);
        // the product of 0 and 1 has to go ahead of the terms of one member, whose stretches are 1, 0 else
        x = with(2, 2, 0b1000);
        due("votes()", x.votes(), 8);
        // term 3 first, by 1; then 1 and 2, by 2; then 0, by 4: the closest is the first
        allAre("vote", x, x::vote, 0, 0, 3, 1);
        // of like ones the first that was voted: 3, 5, 6 by 2 each, not the first of all terms
        x = with(2, 3, 0);
        allAre("vote", x, x::vote, 0, 0, 3, 2);
        // one place wrong of order 2, length 3: three ties, the first of them counts
        x = with(2, 3, 1);
        allAre("vote", x, x::vote, 1, 3, 3, 0);
        // the last vote can be the closest: 3 of 4 ones and no term of one member is as close
        x = with(1, 3, 0b00001111);
        due("votes()", x.votes(), 9);
        allAre("vote", x, x::vote, 0, 0, 1, 4);
        x = with(0, 3, 0b00011111);
        allAre("vote", x, x::vote, 3, 0, 0, 2);
        eachCode((r, m) -> {
            asks("votes()", r, m, PlusCodes::votes, PlusCodes::votes);
            mendedSurely(r, m);
        });
    }

    private static void mendedSurely(int r, int m) {
        int sure = ((1 << m - r) - 1) / 2;
        for (int seed = 0; seed < 30; seed++) {
            PlusCodes x = Looks.bare(r, m);
            int message = seed * 0x5bd1e995 & lowest(x.of(2));
            x.encode(message);
            int whole = x.now();
            x.hurt(seed, sure);
            due(on("votes() with as many wrong as are mended surely", r, m), x.votes(), message);
            due(on("mends()", r, m), x.mends(), sure);
            due(on("now()", r, m), x.now(), whole);
        }
    }

    private static void voteBounds() {
        CHECKS.part("15 (0) .. (3)");
        eachCode((r, m) -> {
            for (int what = 0; what < 4; what++) {
                int n = what;
                asks("vote(" + n + ")", r, m, x -> x.vote(n), x -> x.vote(n));
            }
            refusedEach("vote", r, m, PlusCodes::vote, BAD, -1, 4, LOW, HIGH);
        });
    }

    private static void mendsWithoutChange() {
        CHECKS.part("16 'how many PLACES are otherwise. S.': none at all, too");
        eachCode((r, m) -> {
            leaves("mends()", r, m, PlusCodes::mends, x -> x.vote(0));
            LOOKS.leaves(on("mends() of a word of the code", r, m), () -> {
                PlusCodes x = Looks.crowded(r, m);
                x.encode(lowest(TERM_COUNTS[m][r]));
                return x;
            }, PlusCodes::mends, 0);
            PlusCodes x = Looks.bare(r, m);
            due(on("mends() of 0", r, m), x.mends(), 0);
            due(on("told(4)", r, m), x.told(4), 2);
        });
    }

    // ---- 17 to 20

    private static void signEdges() {
        CHECKS.part("17 SIGNS: all PLACES alike, all unlike");
        for (int m = 0; m <= 5; m++) {
            int places = 1 << m;
            for (int a = 0; a < places; a++) {
                int parity = 0;
                for (int i = 0; i < places; i++) {
                    parity |= Integer.bitCount(a & i) % 2 << i;
                }
                due("sign(" + a + ") of its parity", with(0, m, parity).sign(a), places);
                due("sign(" + a + ") of its opposite", with(0, m, parity ^ lowest(places)).sign(a), -places);
                due("sign(" + a + ") of another", with(0, m, parity).sign(a ^ places - 1), m == 0 ? places : 0);
                due("best(0) of it", with(0, m, parity).best(0), a);
                due("best(1) of it", with(0, m, parity).best(1), places);
                due("best(1) of its opposite", with(0, m, parity ^ lowest(places)).best(1), -places);
                due("best(2) of it", with(0, m, parity).best(2), 1);
            }
        }
    }

    private static void bestEdges() {
        CHECKS.part("18 'of like ones the least', 'how many are as far', 0 .. 2");
        // 0001 of length 2: signs -2 + .. : 2, -2, -2, -2: all four are as far, the least is 0
        PlusCodes x = with(1, 2, 0b0001);
        allAre("sign", x, x::sign, 2, -2, -2, -2);
        allAre("best", x, x::best, 0, 2, 4);
        x = with(1, 2, 0b1110);
        allAre("best", x, x::best, 0, -2, 4);
        // 0x01 of length 3: 6, -2 seven times: one is farther
        x = with(1, 3, 0x01);
        allAre("best", x, x::best, 0, 6, 1);
        // the last a alone is farthest
        x = with(1, 3, 0x96);
        allAre("best", x, x::best, 7, 8, 1);
        x = with(1, 3, 0x69);
        allAre("best", x, x::best, 7, -8, 1);
        x = with(0, 0, 1);
        allAre("best", x, x::best, 0, -1, 1);
        eachCode((r, m) -> {
            for (int what = 0; what < 3; what++) {
                int n = what;
                asks("best(" + n + ")", r, m, y -> y.best(n), y -> y.best(n));
            }
            refusedEach("best", r, m, PlusCodes::best, BAD, -1, 3, LOW, HIGH);
        });
    }

    private static void walkedCodes() {
        CHECKS.part("19, 20, 24, 25 'NO: K is above 16', 'the first of: BAD, NO'");
        eachCode((r, m) -> {
            boolean walked = TERM_COUNTS[m][r] <= 16;
            for (int what = 0; what < 2; what++) {
                int n = what;
                walks("nearest(" + n + ")", r, m, walked, x -> x.nearest(n), NO);
            }
            walks("near()", r, m, walked, PlusCodes::near, 0);
            walks("merit(2)", r, m, walked, x -> x.merit(2), NO);
            for (int weight : new int[] {0, 1, 16, 31, 32}) {
                walks("weights(" + weight + ")", r, m, walked, x -> x.weights(weight), NO);
            }
            asks("merit(0)", r, m, x -> x.merit(0), x -> x.merit(0));
            asks("merit(1)", r, m, x -> x.merit(1), x -> x.merit(1));
            refusedEach("nearest", r, m, PlusCodes::nearest, BAD, -1, 2, LOW, HIGH);
            refusedEach("merit", r, m, PlusCodes::merit, BAD, -1, 3, LOW, HIGH);
            refusedEach("weights", r, m, PlusCodes::weights, BAD, -1, 33, LOW, HIGH);
        });
    }

    private static void walks(String call, int r, int m, boolean walked, ToLongFunction<PlusCodes> asked, int refusal) {
        if (walked) {
            asks(call, r, m, asked, asked);
        } else {
            refused(call, r, m, asked, refusal, BY_NO);
        }
    }

    private static void nearestEdges() {
        CHECKS.part("19, 20 'how many such WORDS', 'of like ones that of the least MESSAGE'");
        for (int m = 1; m <= 5; m++) {
            int half = 1 << m - 1;
            PlusCodes x = with(0, m, lowest(half));
            due(on("nearest(0) of half ones", 0, m), x.nearest(0), half);
            due(on("nearest(1) of half ones", 0, m), x.nearest(1), 2);
            due(on("near() of half ones", 0, m), x.near(), 0);
            x.flip((1 << m) - 1);
            due(on("nearest(0) of one more", 0, m), x.nearest(0), half - 1);
            due(on("nearest(1) of one more", 0, m), x.nearest(1), 1);
            due(on("near() of one more", 0, m), x.near(), lowest(1 << m));
        }
        // 16 terms: the last message, 65535, is gone through, too
        PlusCodes x = Looks.bare(2, 5);
        x.encode(65535);
        int whole = x.now();
        x.hurt(1, 3);
        due("nearest(0) with message 65535", x.nearest(0), 3);
        due("nearest(1) with message 65535", x.nearest(1), 1);
        due("near() with message 65535", x.near(), whole);
        // order m: each word is its own nearest one
        x = with(4, 4, 0xfedc);
        due("nearest(0) of order m", x.nearest(0), 0);
        due("near() of order m", x.near(), 0xfedc);
        // odd words of order m less 1 are one off from each of their neighbours
        x = with(3, 4, 0x8000);
        due("nearest(0) of order m less 1", x.nearest(0), 1);
        due("nearest(1) of order m less 1", x.nearest(1), 16);
        // messages 1 (ff), 2 (aa) and 4 (cc) are as near to ee: ff is of the least
        x = with(1, 3, 0xee);
        due("nearest(1)", x.nearest(1), 4);
        due("near()", x.near(), 0xff);
        x = with(0, 0, 1);
        due("near() of one place", x.near(), 1);
        shorterCodesBehindLonger();
    }

    /** What was gone through for a long code may not be seen in a short one. */
    private static void shorterCodesBehindLonger() {
        PlusCodes x = Looks.bare(4, 4);
        x.near();
        x.code(0, 2);
        x.word(0b0001);
        due("near() of a shorter code", x.near(), 0);
        due("nearest(0) of a shorter code", x.nearest(0), 1);
        due("nearest(1) of a shorter code", x.nearest(1), 1);
        due("weights(0) of a shorter code", x.weights(0), 1);
        due("weights(2) of a shorter code", x.weights(2), 0);
        x.harden(9);
        due("merit(2) of a shorter code", x.merit(2), 18);
        x.word(0b1010);
        x.harden(9);
        due("merit(2) of a shorter code, no word of which is near", x.merit(2), 0);
        x.encode(1);
        due("votes() of the last message", x.votes(), 1);
        x.encode(0);
        due("votes() of the first message then", x.votes(), 0);
    }

    // ---- 21 to 24

    private static void softBounds() {
        CHECKS.part("21 '-99 .. 99'");
        eachCode((r, m) -> {
            int last = (1 << m) - 1;
            for (int n : new int[] {-99, -98, -1, 0, 1, 98, 99}) {
                leaves("soft(" + last + ", " + n + ")", r, m, x -> x.soft(last, n), x -> x.soft(last, 0));
                PlusCodes x = Looks.crowded(r, m);
                x.soft(last, n);
                due(on("soft() then", r, m), x.soft(last, 1), n);
            }
            refusedEach("soft of the last place by", r, m, (x, n) -> x.soft(last, n), -1000, -100, 100, -1000, LOW, HIGH);
            refused("soft of a wrong place by a wrong number: one refusal", r, m, x -> x.soft(last + 1, 100), -1000, BY_BAD);
        });
    }

    private static void hardenBounds() {
        CHECKS.part("22 'n (1 .. 99)'");
        eachCode((r, m) -> {
            for (int n : new int[] {1, 2, 98, 99}) {
                leaves("harden(" + n + ")", r, m, x -> x.harden(n), x -> n);
                PlusCodes x = Looks.crowded(r, m);
                int word = x.now();
                x.harden(n);
                for (int i = 0; i < 1 << m; i++) {
                    due(on("soft(" + i + ", 0) then", r, m), x.soft(i, 0), bit(word, i) == 0 ? n : -n);
                }
            }
            refusedEach("harden", r, m, PlusCodes::harden, BAD, 0, 100, -1, -99, LOW, HIGH);
        });
    }

    private static void halvesEdges() {
        CHECKS.part("23 'with r 0: all 0, if all numbers together are 0 or more, else all 1'");
        for (int m = 0; m <= 5; m++) {
            int last = (1 << m) - 1;
            int all = lowest(1 << m);
            due(on("halves() of 0 all", 0, m), Looks.bare(0, m).halves(), 0);
            PlusCodes x = softly(0, m, 7);
            x.soft(last, m == 0 ? 0 : -7);
            due(on("halves() of 0 together", 0, m), x.halves(), 0);
            x.soft(last, m == 0 ? -1 : -8);
            due(on("halves() of -1 together", 0, m), x.halves(), all);
            x.soft(last, m == 0 ? 1 : -6);
            due(on("halves() of 1 together", 0, m), x.halves(), 0);
            x = with(0, m, all);
            x.harden(99);
            due(on("halves() of the least numbers", 0, m), x.halves(), all);
        }
        CHECKS.part("23 'r as m: at each PLACE 0, if its number is 0 or more, else 1'");
        for (int m = 0; m <= 5; m++) {
            int last = (1 << m) - 1;
            int[][] due = {{-99, 1}, {-1, 1}, {0, 0}, {1, 0}, {99, 0}};
            for (int[] d : due) {
                PlusCodes x = Looks.bare(m, m);
                x.soft(last, d[0]);
                due(on("halves() with " + d[0] + " at the last", m, m), x.halves(), d[1] << last);
            }
        }
        lesserEdges();
        eachCode((r, m) -> asks("halves()", r, m, PlusCodes::halves, PlusCodes::halves));
    }

    private static void lesserEdges() {
        CHECKS.part("23 'the lesser of both numbers as far from 0, with their signs' product (0 or above counts as above)'");
        // order 1, length 2: z at 0 of numbers 0 and 2, z at 1 of numbers 1 and 3; v is both of z together
        due("z 5 and -5: 0 together, v 0", softly(1, 2, 5, 5, 5, -5).halves(), 0);
        due("z 5 and -6: v 1; u 5 - 5, 6 + 6", softly(1, 2, 5, 6, 5, -6).halves(), 0b1100);
        due("z -99 and 98: v 1; u 99 + 99, 98 - 99", softly(1, 2, 99, 98, -99, 99).halves(), 0b0110);
        due("z of both below is above", softly(1, 2, -99, -99, -99, -99).halves(), 0b1111);
        due("z of 0 and -5 is 0, as of 0 and 5: with -1 v is 1", softly(1, 2, 0, 1, -5, -1).halves(), 0b1100);
        due("z of 0 and -5 with 0: v is 0; u is -5, 1", softly(1, 2, 0, 1, -5, 0).halves(), 0b0101);
        due("z of -5 and 0 with 0: v is 0; u is -5, 1", softly(1, 2, -5, 1, 0, 0).halves(), 0b0101);
        due("z of -1 and 5 is -1: v 1; u -1 - 5, 0", softly(1, 2, -1, 0, 5, 0).halves(), 0b1001);
        due("z of 5 and -1 is -1: v 1; u 5 + 1, 0", softly(1, 2, 5, 0, -1, 0).halves(), 0b1100);
        due("z of 1 and 5 is 1: v 0; u 6, 0", softly(1, 2, 1, 0, 5, 0).halves(), 0);
        CHECKS.part("23 'v is HALVES of order r less 1', 'u is HALVES of order r'");
        // z is 9, -9, 9, -9: v of order 1 is 1010, of order 0 it were 0; u is 18 at all places
        due("order 2, length 3", softly(2, 3, 9, 9, 9, 9, 9, -9, 9, -9).halves(), 0xa0);
        // z is 9, 9, 9, -9: v is 0 by -9 + 9 and 0; u of order r as m is each alone: 18, 18, 18, 0
        due("order 2, length 3", softly(2, 3, 9, 9, 9, 9, 9, 9, 9, -9).halves(), 0);
        due("order 2, length 3, one of u below 0", softly(2, 3, 9, 9, 9, 8, 9, 9, 9, -9).halves(), 0x88);
        CHECKS.part("23 'that of i, and that of the upper one or 0 less it, if v has 1 there, together'");
        due("v 0: u 3 - 3 is 0: 0", softly(1, 2, 3, 9, -3, 9).halves(), 0);
        due("v 0: u 3 - 4 is -1: 1", softly(1, 2, 3, 9, -4, 9).halves(), 0b0101);
        due("v 1: u 3 - 3 is 0: 0", softly(1, 2, 3, 9, 3, -9).halves(), 0b1100);
        due("v 1: u 3 - 4 is -1: 1", softly(1, 2, 3, 9, 4, -9).halves(), 0b1001);
        due("v 1: u -9 + 9 is 0: 0", softly(1, 2, 99, -9, -99, -9).halves(), 0b1100);
        due("v 1: u -9 + 8 is -1: 1", softly(1, 2, 99, -9, -99, -8).halves(), 0b0110);
    }

    private static void meritEdges() {
        CHECKS.part("24 '(0) .. (2)', -2 as an answer and as a refusal, the greatest and the least");
        for (int m = 0; m <= 5; m++) {
            int all = lowest(1 << m);
            PlusCodes x = with(0, m, all);
            x.harden(99);
            allAre("merit", x, x::merit, 99 << m, 99 << m, 99 << m);
            x.word(0);
            allAre("merit", x, x::merit, -99 << m, 99 << m, 99 << m);
        }
        Supplier<PlusCodes> twoBelow = () -> {
            PlusCodes x = with(0, 0, 1);
            x.soft(0, 2);
            return x;
        };
        LOOKS.asks("merit(0) of -2", twoBelow, x -> x.merit(0), -2);
        LOOKS.refused("merit(3)", twoBelow, x -> x.merit(3), -2, BY_BAD);
        Supplier<PlusCodes> threeBelow = () -> {
            PlusCodes x = with(5, 5, 1);
            x.soft(0, 3);
            return x;
        };
        LOOKS.asks("merit(0) of -3", threeBelow, x -> x.merit(0), -3);
        LOOKS.refused("merit(2) with 32 terms", threeBelow, x -> x.merit(2), NO, BY_NO);
        // halves do not find the best word here, and the best of all is no word of the code
        PlusCodes y = softly(1, 3, 2, 2, 1, 1, 1, 0, 0, -2);
        y.word(0xf0);
        allAre("merit", y, y::merit, 7, 5, 7);
        y = softly(0, 1, -5, 5);
        y.word(1);
        allAre("merit", y, y::merit, 10, 0, 0);
        // the greatest is that of the last message of 16 terms
        PlusCodes x = Looks.bare(2, 5);
        x.encode(65535);
        x.harden(1);
        due("merit(2)", x.merit(2), 32);
        x.flip(31);
        due("merit(0) with the last place wrong", x.merit(0), 30);
        due("merit(2) all the same", x.merit(2), 32);
    }

    // ---- 25 to 27

    private static void weightsBounds() {
        CHECKS.part("25 'w (0 .. 32)' on all lengths");
        eachCode((r, m) -> {
            if (TERM_COUNTS[m][r] <= 16) {
                PlusCodes x = Looks.bare(r, m);
                int together = 0;
                for (int w = 0; w <= 32; w++) {
                    together += x.weights(w);
                    if (w > 1 << m || w > 0 && w < 1 << m - r) {
                        due(on("weights(" + w + "): beyond PLACES or below DISTANCE", r, m), x.weights(w), 0);
                    }
                }
                due(on("weights() together", r, m), together, 1 << TERM_COUNTS[m][r]);
                due(on("weights(0)", r, m), x.weights(0), 1);
                due(on("weights() of all ones", r, m), x.weights(1 << m), 1);
                CHECKS.holds(on("weights(DISTANCE) are some", r, m), x.weights(1 << m - r) > 0);
                due(on("told(0)", r, m), x.told(0), 0);
            }
        });
        due("weights(32) of order 2, length 5", Looks.bare(2, 5).weights(32), 1);
        due("weights(8) of order 2, length 5", Looks.bare(2, 5).weights(8), 620);
    }

    private static void perpendicularEdges() {
        CHECKS.part("26 'an even number of PLACES where both are 1'");
        for (int m = 0; m <= 5; m++) {
            for (int seed = 0; seed < 40; seed++) {
                int w = drawn(seed, seed % ((1 << m) + 1), m);
                due(on("perpendicular() of " + w, 0, m), with(0, m, w).perpendicular(), isEven(w) ? 1 : 0);
                due(on("perpendicular() of " + w, m, m), with(m, m, w).perpendicular(), w == 0 ? 1 : 0);
                if (m > 0) {
                    boolean so = w == 0 || w == lowest(1 << m);
                    due(on("perpendicular() of " + w, m - 1, m), with(m - 1, m, w).perpendicular(), so ? 1 : 0);
                }
            }
        }
        eachCode((r, m) -> asks("perpendicular()", r, m, PlusCodes::perpendicular, x -> isOfCode(x.now(), m - r - 1, m) ? 1 : 0));
    }

    private static void askedEdges() {
        CHECKS.part("27 'NO: r is m', 'the first of: BAD, NO'");
        for (int m = 0; m <= 5; m++) {
            int last = (1 << m) - 1;
            for (int i : new int[] {0, last}) {
                refused("asked(" + i + ")", m, m, x -> x.asked(i), NO, BY_NO);
            }
            refusedEach("asked", m, m, PlusCodes::asked, BAD, -1, last + 1);
            for (int i = 0; m > 0 && i <= last; i++) {
                // one set of all members: the sum of all other places
                PlusCodes x = with(m - 1, m, lowest(last + 1) ^ 1 << i);
                due(on("asked(" + i + ") where all others are 1", m - 1, m), x.asked(i), last % 2);
                x.word(1 << i);
                due(on("asked(" + i + ") where it alone is 1", m - 1, m), x.asked(i), 0);
            }
        }
        CHECKS.part("27 'more of these sums 1 than 0: 1, else 0'");
        // order 0: the places one step off from place 0: 1, 2, 4, 8, (16)
        int[] steps = {1, 2, 4, 8, 16};
        for (int m = 1; m <= 5; m++) {
            int word = 0;
            for (int ones = 0; ones <= m; ones++) {
                due(on("asked(0) with " + ones + " ones", 0, m), with(0, m, word).asked(0), 2 * ones > m ? 1 : 0);
                due(on("asked(0) with " + ones + " ones and its own", 0, m), with(0, m, word | 1).asked(0), 2 * ones > m ? 1 : 0);
                word |= ones < m ? 1 << steps[ones] : 0;
            }
        }
    }
}
