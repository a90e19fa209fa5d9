/** For each promise of the document: ordinary inputs, the edges that it names, and wrong inputs. */
public final class PromisesTest {
    private static final Checks CHECKS = new Checks();
    private static final int BAD = PlusCodes.BAD;
    private static final int NO = PlusCodes.NO;
    private static final int FULL = PlusCodes.FULL;
    private static final int LOW = Integer.MIN_VALUE;
    private static final int HIGH = Integer.MAX_VALUE;

    public static void main(String[] args) {
        codesAndWords();
        mending();
        softPlaces();
        whatCodesAre();
        texts();
        CHECKS.end();
    }

    private static void codesAndWords() {
        newObject();
        code();
        of();
        term();
        word();
        encode();
        flip();
        hurt();
        nowAtWeight();
        isWord();
        coefficient();
    }

    private static void mending() {
        votes();
        vote();
        mends();
        sign();
        best();
        nearest();
        near();
    }

    private static void softPlaces() {
        soft();
        harden();
        halves();
        merit();
    }

    private static void whatCodesAre() {
        weights();
        perpendicular();
        asked();
    }

    private static void texts() {
        type();
        clear();
        does();
        back();
        told();
        digest();
    }

    // ---- helpers

    private static void due(String call, long got, long want) {
        CHECKS.due(call, got, want);
    }

    private static PlusCodes with(int r, int m) {
        PlusCodes x = new PlusCodes();
        x.code(r, m);
        return x;
    }

    private static PlusCodes with(int r, int m, int word) {
        PlusCodes x = with(r, m);
        x.word(word);
        return x;
    }

    private static void softs(PlusCodes x, int... numbers) {
        for (int i = 0; i < numbers.length; i++) {
            x.soft(i, numbers[i]);
        }
    }

    /** That a refused call counts once under that kind, leaves no state and changes nothing. */
    private static void refusedOnce(String call, PlusCodes x, int[] before, int kind) {
        int[] after = picture(x);
        for (int k = 0; k < before.length; k++) {
            due(call + ", then number " + k + " of the picture", after[k], before[k] + (k == kind ? 1 : 0));
        }
    }

    private static int[] picture(PlusCodes x) {
        return new int[] {x.told(0), x.told(1), x.told(2), x.told(3), x.told(4), x.of(0), x.of(1), x.now(), x.halves()};
    }

    private static int tell(PlusCodes x, String text) {
        x.clear();
        for (int k = 0; k < text.length(); k++) {
            x.type(text.charAt(k));
        }
        return x.does();
    }

    private static void fault(PlusCodes x, String text, int place) {
        int[] before = picture(x);
        due("does() by '" + text + "'", tell(x, text), -10 - place);
        before[3] = text.length();
        refusedOnce("a fault by '" + text + "'", x, before, -1);
    }

    private static void faultNew(String text, int place) {
        fault(new PlusCodes(), text, place);
    }

    // ---- code and word

    private static void newObject() {
        CHECKS.part("1 a new object");
        PlusCodes x = new PlusCodes();
        due("of(0)", x.of(0), 1);
        due("of(1)", x.of(1), 3);
        due("now()", x.now(), 0);
        for (int what = 0; what < 5; what++) {
            due("told(" + what + ")", x.told(what), 0);
        }
        for (int i = 0; i < 8; i++) {
            due("soft(" + i + ", 1)", new PlusCodes().soft(i, 1), 0);
        }
        due("does()", x.does(), -10);
        due("two objects do not share: word", new PlusCodes().word(7) + x.now(), 1);
    }

    private static void code() {
        CHECKS.part("2 code");
        int[][] counts = {{1}, {1, 2}, {1, 3, 4}, {1, 4, 7, 8}, {1, 5, 11, 15, 16}, {1, 6, 16, 26, 31, 32}};
        PlusCodes x = new PlusCodes();
        for (int m = 0; m <= 5; m++) {
            for (int r = 0; r <= m; r++) {
                due("code(" + r + ", " + m + ")", x.code(r, m), counts[m][r]);
            }
        }
        x = with(1, 2, 9);
        softs(x, -1, -2, -3, -4);
        due("code(1, 2) again", x.code(1, 2), 3);
        due("now()", x.now(), 0);
        due("halves()", x.halves(), 0);
        due("merit(0)", x.merit(0), 0);
        due("soft(3, 0)", x.soft(3, 0), 0);
        x.code(2, 5);
        x.soft(31, 5);
        x.code(0, 0);
        x.code(2, 5);
        due("soft(31, 0) after shorter codes", x.soft(31, 0), 0);
        int[][] wrong = {{4, 3}, {0, 6}, {6, 6}, {-1, 0}, {-1, 3}, {0, -1}, {-1, -1}, {1, 0}, {LOW, 3}, {HIGH, HIGH}, {0, LOW}};
        for (int[] w : wrong) {
            x = with(1, 2, 9);
            int[] before = picture(x);
            due("code(" + w[0] + ", " + w[1] + ")", x.code(w[0], w[1]), BAD);
            refusedOnce("a bad code", x, before, 0);
        }
        x = with(1, 2, 9);
        due("told(4)", x.told(4), 2);
        x.code(0, 0);
        due("told(4): it leaves a state", x.told(4), 3);
        x.back();
        due("now()", x.now(), 9);
        due("of(1)", x.of(1), 2);
    }

    private static void of() {
        CHECKS.part("3 of");
        int[][] due = {{0, 0, 1, 1, 1, 0}, {0, 5, 1, 32, 32, 15}, {2, 5, 16, 8, 32, 3}, {5, 5, 32, 1, 32, 0}, {3, 4, 15, 2, 16, 0}};
        for (int[] d : due) {
            PlusCodes x = with(d[0], d[1]);
            for (int what = 0; what < 6; what++) {
                due("of(" + what + ")", x.of(what), d[what]);
            }
        }
        for (int what : new int[] {-1, 6, LOW, HIGH}) {
            PlusCodes x = new PlusCodes();
            int[] before = picture(x);
            due("of(" + what + ")", x.of(what), BAD);
            refusedOnce("a bad of", x, before, 0);
        }
    }

    private static void term() {
        CHECKS.part("4 term");
        PlusCodes x = with(3, 4);
        int[] order = {0, 1, 2, 4, 8, 3, 5, 6, 9, 10, 12, 7, 11, 13, 14};
        for (int j = 0; j < order.length; j++) {
            due("term(" + j + ")", x.term(j), order[j]);
        }
        due("term(15)", x.term(15), PlusCodes.NONE);
        due("term of the greatest int", x.term(HIGH), PlusCodes.NONE);
        due("told(0): none is refused", x.told(0), 0);
        int[] last = {7, 11, 13, 14, 19, 21, 22, 25, 26, 28, 15, 23, 27, 29, 30, 31};
        x.code(5, 5);
        for (int j = 0; j < last.length; j++) {
            due("term(" + (16 + j) + ")", x.term(16 + j), last[j]);
        }
        due("term(32)", x.term(32), PlusCodes.NONE);
        for (int j : new int[] {-1, LOW}) {
            int[] before = picture(x);
            due("term(" + j + ")", x.term(j), BAD);
            refusedOnce("a bad term", x, before, 0);
        }
    }

    private static void word() {
        CHECKS.part("5 word");
        PlusCodes x = new PlusCodes();
        due("word(255)", x.word(255), 1);
        due("now()", x.now(), 255);
        due("told(4)", x.told(4), 1);
        due("word(255) again", x.word(255), 1);
        due("told(4): it leaves a state even so", x.told(4), 2);
        for (int w : new int[] {256, -1, LOW, HIGH}) {
            int[] before = picture(x);
            due("word(" + w + ")", x.word(w), BAD);
            refusedOnce("a bad word", x, before, 0);
        }
        x.code(0, 0);
        due("word(1) of one place", x.word(1), 1);
        due("word(2) of one place", x.word(2), BAD);
        x.code(0, 4);
        due("word(65535)", x.word(65535), 1);
        due("word(65536)", x.word(65536), BAD);
        x.code(0, 5);
        for (int w : new int[] {0, -1, LOW, HIGH}) {
            due("word(" + w + ") of 32 places", x.word(w), 1);
            due("now()", x.now(), w);
        }
    }

    private static void encode() {
        CHECKS.part("6 encode");
        PlusCodes x = new PlusCodes();
        int[] words = {0, 255, 0xaa, 0x55, 0xcc, 0x33, 0x66, 0x99, 0xf0, 0x0f, 0x5a, 0xa5, 0x3c, 0xc3, 0x96, 0x69};
        for (int message = 0; message < 16; message++) {
            due("encode(" + message + ")", x.encode(message), Integer.bitCount(words[message]));
            due("now()", x.now(), words[message]);
        }
        for (int message : new int[] {16, -1, LOW, HIGH}) {
            int[] before = picture(x);
            due("encode(" + message + ")", x.encode(message), BAD);
            refusedOnce("a bad encode", x, before, 0);
        }
        x.code(3, 3);
        due("encode(128): all places in one term", x.encode(128), 1);
        due("now()", x.now(), 128);
        x.code(4, 5);
        due("encode of 31 bits", x.encode(HIGH), Integer.bitCount(x.now()));
        due("encode of a 32nd bit", x.encode(LOW), BAD);
        x.code(5, 5);
        due("encode(LOW)", x.encode(LOW), 1);
        due("now()", x.now(), LOW);
        due("encode(-1): each place has 2 to its members parts, but for 0", x.encode(-1), 1);
        due("now()", x.now(), 1);
        x = new PlusCodes();
        x.encode(0);
        due("told(4)", x.told(4), 1);
    }

    private static void flip() {
        CHECKS.part("7 flip");
        PlusCodes x = new PlusCodes();
        due("flip(7)", x.flip(7), 1);
        due("now()", x.now(), 128);
        due("flip(0)", x.flip(0), 1);
        due("flip(7)", x.flip(7), 0);
        due("now()", x.now(), 1);
        due("told(4)", x.told(4), 3);
        for (int i : new int[] {-1, 8, 32, LOW, HIGH}) {
            int[] before = picture(x);
            due("flip(" + i + ")", x.flip(i), BAD);
            refusedOnce("a bad flip", x, before, 0);
        }
        x.code(1, 5);
        due("flip(31)", x.flip(31), 1);
        due("now()", x.now(), LOW);
        due("flip(32)", x.flip(32), BAD);
    }

    private static void hurt() {
        CHECKS.part("8 hurt");
        PlusCodes x = new PlusCodes();
        // X: 12345, 1406932606, 654583775, 1449466924; by 65536: 0, 21468, 9988, 22117; by 8: 0, 4, 4, 5
        due("hurt(0, 3)", x.hurt(0, 3), 3);
        due("now(): 0, 4, then 4 is drawn already, so 5", x.now(), 49);
        due("hurt(0, 4)", x.hurt(0, 4), 1);
        due("now(): 5 is drawn already, so 6", x.now(), 64);
        due("hurt(5, 0)", x.hurt(5, 0), 1);
        due("told(4): even with none drawn", x.told(4), 3);
        x.word(0);
        due("hurt(999999, 8)", x.hurt(999999, 8), 8);
        due("hurt(999998, 8)", x.hurt(999998, 8), 0);
        int[][] wrong = {{-1, 0}, {1000000, 0}, {0, -1}, {0, 9}, {LOW, 1}, {HIGH, 1}, {1, LOW}, {1, HIGH}};
        for (int[] w : wrong) {
            int[] before = picture(x);
            due("hurt(" + w[0] + ", " + w[1] + ")", x.hurt(w[0], w[1]), BAD);
            refusedOnce("a bad hurt", x, before, 0);
        }
        x.code(0, 0);
        due("hurt(3, 1) of one place", x.hurt(3, 1), 1);
        due("hurt(3, 2) of one place", x.hurt(3, 2), BAD);
        x.code(1, 5);
        due("hurt(77, 32)", x.hurt(77, 32), 32);
        due("now()", x.now(), -1);
        due("hurt(77, 33)", x.hurt(77, 33), BAD);
        hurtGoesAround();
    }

    private static void hurtGoesAround() {
        boolean seen = false;
        for (int seed = 0; seed < 200; seed++) {
            long first = (seed * 1103515245L + 12345) % 2147483648L;
            long second = (first * 1103515245L + 12345) % 2147483648L;
            if (first / 65536 % 2 == 1 && second / 65536 % 2 == 1) {
                PlusCodes x = with(1, 1);
                due("hurt(" + seed + ", 2): 0 comes behind the last", x.hurt(seed, 2), 2);
                due("now()", x.now(), 3);
                seen = true;
            }
        }
        CHECKS.holds("a seed draws the last place twice", seen);
    }

    private static void nowAtWeight() {
        CHECKS.part("9 to 11 now, at, weight");
        PlusCodes x = with(2, 5, 0x80000005);
        due("now()", x.now(), 0x80000005);
        due("weight()", x.weight(), 3);
        due("at(0)", x.at(0), 1);
        due("at(1)", x.at(1), 0);
        due("at(2)", x.at(2), 1);
        due("at(31)", x.at(31), 1);
        for (int i : new int[] {-1, 32, LOW, HIGH}) {
            int[] before = picture(x);
            due("at(" + i + ")", x.at(i), BAD);
            refusedOnce("a bad at", x, before, 0);
        }
        x.word(-1);
        due("weight()", x.weight(), 32);
        x.word(0);
        due("weight()", x.weight(), 0);
        due("told(4): they leave no state", x.told(4), 4);
        x.code(0, 0);
        due("at(1) of one place", x.at(1), BAD);
    }

    private static void isWord() {
        CHECKS.part("12 isWord");
        int many = 0;
        PlusCodes x = null;
        for (int w = 0; w < 256; w++) {
            x = with(1, 3, w);
            many += x.isWord();
        }
        due("words of order 1 and length 3", many, 16);
        x = with(0, 5, -1);
        due("isWord()", x.isWord(), 1);
        x.flip(31);
        due("isWord()", x.isWord(), 0);
        x = with(3, 3, 0x97);
        due("isWord() by the greatest order", x.isWord(), 1);
        x = with(2, 3, 0x97);
        due("isWord(): of odd weight", x.isWord(), 0);
        x = with(2, 3, 0x96);
        due("isWord(): of even weight", x.isWord(), 1);
        x = with(0, 0, 1);
        due("isWord() of one place", x.isWord(), 1);
        x = with(2, 4, 0x8000 | 0x0008);
        due("isWord() of two ones", x.isWord(), 0);
        x.encode(0x7ff);
        due("isWord()", x.isWord(), 1);
    }

    private static void coefficient() {
        CHECKS.part("13 coefficient");
        PlusCodes x = with(0, 3, 128);
        for (int j = 0; j < 8; j++) {
            due("coefficient(" + j + ") of the last place alone", x.coefficient(j), j == 7 ? 1 : 0);
        }
        x.word(1);
        for (int j = 0; j < 8; j++) {
            due("coefficient(" + j + ") of the first place alone", x.coefficient(j), 1);
        }
        x.word(0x88);
        int[] pair = {0, 0, 0, 0, 1, 0, 0, 0};
        for (int j = 0; j < 8; j++) {
            due("coefficient(" + j + ") of 0 and 1 together", x.coefficient(j), pair[j]);
        }
        for (int j : new int[] {-1, 8, LOW, HIGH}) {
            int[] before = picture(x);
            due("coefficient(" + j + ")", x.coefficient(j), BAD);
            refusedOnce("a bad coefficient", x, before, 0);
        }
        x.code(5, 5);
        x.encode(0x9e3779b9);
        for (int j = 0; j < 32; j++) {
            due("coefficient(" + j + ")", x.coefficient(j), 0x9e3779b9 >>> j & 1);
        }
        due("coefficient(32)", x.coefficient(32), BAD);
    }

    // ---- mending

    private static void votes() {
        CHECKS.part("14 votes");
        for (int m = 0; m <= 5; m++) {
            for (int r = 0; r <= m; r++) {
                PlusCodes x = with(r, m);
                int message = 0x5bd1e995 & -1 >>> 32 - x.of(2);
                x.encode(message);
                due("votes() for a word of order " + r + ", length " + m, x.votes(), message);
                x.hurt(31 * r + m, x.of(5));
                due("votes() for it, hurt as much as is mended surely", x.votes(), message);
                due("told(4): it leaves none", x.told(4), 3);
            }
        }
        PlusCodes x = with(0, 1, 1);
        due("votes() by a tie", x.votes(), 0);
        x = with(1, 2, 8);
        // term 1: stretches 0 1 -> 0, 2 3 -> 1: tie; term 2: as well; term 0: one of four
        due("votes() by ties", x.votes(), 0);
        x = with(1, 2, 0b0110);
        due("votes()", x.votes(), 6);
    }

    private static void vote() {
        CHECKS.part("15 vote");
        PlusCodes x = with(1, 2, 8);
        int[] due = {1, 2, 1, 0};
        for (int what = 0; what < 4; what++) {
            due("vote(" + what + ")", x.vote(what), due[what]);
        }
        x = with(0, 2, 3);
        int[] tie = {2, 1, 0, 0};
        for (int what = 0; what < 4; what++) {
            due("vote(" + what + ") by a tie", x.vote(what), tie[what]);
        }
        x = with(2, 2, 9);
        int[] alone = {0, 0, 3, 1};
        for (int what = 0; what < 4; what++) {
            due("vote(" + what + ") where one stretch decides", x.vote(what), alone[what]);
        }
        // order 1, length 3, places 3 and 0 wrong: terms 1 and 2 have ties, term 4 has 2 of 4
        x = with(1, 3, 9);
        // term 1: 01, 23, 45, 67 -> 1, 1, 0, 0: tie; so 2: 02, 13: 1, 1; 4: 04, 37: 1, 1; then term 0: 2 of 8, by 4
        int[] two = {2, 3, 1, 0};
        for (int what = 0; what < 4; what++) {
            due("vote(" + what + ") with two places wrong", x.vote(what), two[what]);
        }
        // order 0, length 3, 5 ones: by 2; and 4 ones of 8
        x = with(0, 3, 0x1f);
        due("vote(0)", x.vote(0), 3);
        due("vote(3)", x.vote(3), 2);
        x = with(0, 3, 0x07);
        due("vote(0)", x.vote(0), 3);
        due("vote(3): of more 0 than 1", x.vote(3), 2);
        for (int what : new int[] {-1, 4, LOW, HIGH}) {
            int[] before = picture(x);
            due("vote(" + what + ")", x.vote(what), BAD);
            refusedOnce("a bad vote", x, before, 0);
        }
    }

    private static void mends() {
        CHECKS.part("16 mends");
        PlusCodes x = new PlusCodes();
        x.encode(5);
        x.flip(3);
        due("told(4)", x.told(4), 2);
        due("mends()", x.mends(), 1);
        due("now()", x.now(), 51);
        due("told(4)", x.told(4), 3);
        due("mends() of a word", x.mends(), 0);
        due("told(4): it leaves one even so", x.told(4), 4);
        x.back();
        x.back();
        due("now()", x.now(), 59);
        x = with(1, 5);
        x.encode(0x2d);
        int whole = x.now();
        x.hurt(4711, 7);
        due("mends() with 7 wrong of 32", x.mends(), 7);
        due("now()", x.now(), whole);
    }

    private static void sign() {
        CHECKS.part("17 sign");
        PlusCodes x = with(1, 3, 0x66);
        for (int a = 0; a < 8; a++) {
            due("sign(" + a + ")", x.sign(a), a == 3 ? 8 : 0);
        }
        x.word(0x99);
        due("sign(3)", x.sign(3), -8);
        x.word(0x98);
        for (int a = 0; a < 8; a++) {
            int direct = 0;
            for (int i = 0; i < 8; i++) {
                direct += (0x98 >> i & 1) == Integer.bitCount(a & i) % 2 ? 1 : -1;
            }
            due("sign(" + a + ")", x.sign(a), direct);
        }
        due("sign(3) with one wrong", x.sign(3), -6);
        for (int a : new int[] {-1, 8, LOW, HIGH}) {
            int[] before = picture(x);
            due("sign(" + a + ")", x.sign(a), 1000);
            refusedOnce("a bad sign", x, before, 0);
        }
        x = with(3, 5);
        due("sign(0)", x.sign(0), 32);
        due("sign(31)", x.sign(31), 0);
        due("sign(32)", x.sign(32), 1000);
        x = with(0, 0, 1);
        due("sign(0) of one place", x.sign(0), -1);
    }

    private static void best() {
        CHECKS.part("18 best");
        PlusCodes x = with(1, 3, 0x99);
        int[] due = {3, -8, 1};
        for (int what = 0; what < 3; what++) {
            due("best(" + what + ")", x.best(what), due[what]);
        }
        x.word(0x88);
        // the product of 0 and 1: 4, 4, 4, -4 for 0 .. 3, nothing else
        int[] bent = {0, 4, 4};
        for (int what = 0; what < 3; what++) {
            due("best(" + what + ") of a product", x.best(what), bent[what]);
        }
        x.word(0x77);
        due("best(1) of its opposite", x.best(1), -4);
        for (int what : new int[] {-1, 3, LOW, HIGH}) {
            int[] before = picture(x);
            due("best(" + what + ")", x.best(what), BAD);
            refusedOnce("a bad best", x, before, 0);
        }
        x = with(0, 5, -1);
        due("best(1)", x.best(1), -32);
    }

    private static void nearest() {
        CHECKS.part("19 nearest");
        PlusCodes x = with(1, 3, 0x88);
        due("nearest(0)", x.nearest(0), 2);
        due("nearest(1)", x.nearest(1), 4);
        x.word(0xf0);
        due("nearest(0)", x.nearest(0), 0);
        due("nearest(1)", x.nearest(1), 1);
        x = with(0, 5, 0xffff);
        due("nearest(0)", x.nearest(0), 16);
        due("nearest(1)", x.nearest(1), 2);
        for (int what : new int[] {-1, 2, LOW, HIGH}) {
            int[] before = picture(x);
            due("nearest(" + what + ")", x.nearest(what), BAD);
            refusedOnce("a bad nearest", x, before, 0);
        }
        x = with(4, 4, 0x1234);
        due("nearest(0) with 16 terms", x.nearest(0), 0);
        x = with(2, 5, 0x80000000);
        due("nearest(0) with 16 terms and 32 places", x.nearest(0), 1);
        x = with(3, 5, 1);
        for (int what = 0; what < 2; what++) {
            int[] before = picture(x);
            due("nearest(" + what + ") with 26 terms", x.nearest(what), NO);
            refusedOnce("no nearest", x, before, 1);
        }
        int[] before = picture(x);
        due("nearest(2) with 26 terms", x.nearest(2), BAD);
        refusedOnce("a bad nearest ahead of no", x, before, 0);
    }

    private static void near() {
        CHECKS.part("20 near");
        PlusCodes x = with(1, 3, 0x89);
        // 0x99 is one place off
        due("near()", x.near(), 0x99);
        x.word(0x88);
        due("near(): 0, aa, cc and 99 are as near", x.near(), 0);
        x = with(0, 5, 0xffff);
        due("near(): of like ones that of message 0", x.near(), 0);
        x.flip(31);
        due("near()", x.near(), -1);
        due("now(): it changes nothing", x.now(), 0x8000ffff);
        x = with(0, 1, 2);
        due("near()", x.near(), 0);
        // messages 2 (aa) and 4 (cc) are as near as 1 (ff): the message counts, not the word
        x = with(1, 3, 0xee);
        due("near()", x.near(), 0xff);
        x = with(3, 5, 77);
        int[] before = picture(x);
        due("near() with 26 terms", x.near(), 0);
        refusedOnce("no near", x, before, 1);
        x = with(5, 5, 77);
        due("near() with 32 terms", x.near(), 0);
        due("told(1)", x.told(1), 1);
    }

    // ---- soft places

    private static void soft() {
        CHECKS.part("21 soft");
        PlusCodes x = new PlusCodes();
        due("soft(7, -99)", x.soft(7, -99), 0);
        due("soft(7, 99)", x.soft(7, 99), -99);
        due("soft(7, 99)", x.soft(7, 99), 99);
        due("soft(0, 0)", x.soft(0, 0), 0);
        due("told(4)", x.told(4), 4);
        int[][] wrong = {{8, 0}, {-1, 0}, {0, 100}, {0, -100}, {LOW, 0}, {HIGH, 0}, {0, LOW}, {0, HIGH}};
        for (int[] w : wrong) {
            int[] before = picture(x);
            due("soft(" + w[0] + ", " + w[1] + ")", x.soft(w[0], w[1]), -1000);
            refusedOnce("a bad soft", x, before, 0);
        }
        x.back();
        x.back();
        x.back();
        due("soft(7, 1) when it went back", x.soft(7, 1), -99);
        x.code(1, 5);
        due("soft(31, 5)", x.soft(31, 5), 0);
        due("soft(31, 6)", x.soft(31, 6), 5);
        due("soft(32, 6)", x.soft(32, 6), -1000);
    }

    private static void harden() {
        CHECKS.part("22 harden");
        PlusCodes x = with(2, 2, 6);
        x.soft(0, -5);
        due("harden(99)", x.harden(99), 99);
        int[] due = {99, -99, -99, 99};
        for (int i = 0; i < 4; i++) {
            due("soft(" + i + ", 0)", x.soft(i, 0), due[i]);
        }
        x = with(2, 2, 6);
        due("harden(1)", x.harden(1), 1);
        due("told(4)", x.told(4), 3);
        due("halves()", x.halves(), 6);
        for (int n : new int[] {0, 100, -1, LOW, HIGH}) {
            int[] before = picture(x);
            due("harden(" + n + ")", x.harden(n), BAD);
            refusedOnce("a bad harden", x, before, 0);
        }
        x.back();
        due("soft(1, 0) when it went back", x.soft(1, 0), 0);
    }

    private static void halves() {
        CHECKS.part("23 halves");
        PlusCodes x = with(0, 2);
        softs(x, 5, -3, -3, 1);
        due("halves() of 0 together", x.halves(), 0);
        x.soft(3, 0);
        due("halves() of -1 together", x.halves(), 15);
        x = with(2, 2);
        softs(x, 0, -1, 1, -99);
        due("halves() of each alone", x.halves(), 10);
        x = with(1, 2);
        softs(x, 3, -4, -5, 2);
        // z: -3, -2: together below 0, v is 11; u: 3 + 5, -4 - 2: 0, 1; the upper half: 1, 0
        due("halves()", x.halves(), 0b0110);
        softs(x, 0, -4, -5, 7);
        // z: the lesser of 0 and 5 is 0, -4: v is 11; u: 0 + 5, -4 - 7: 0, 1
        due("halves() with a 0", x.halves(), 0b0110);
        softs(x, 5, -3, 2, 3);
        // z: 2, -3: v is 11; u: 5 - 2, -3 - 3: 0, 1
        due("halves()", x.halves(), 0b0110);
        softs(x, 5, -3, 3, 3);
        // z: 3, -3: 0 together, v is 00; u: 8, 0: 0, 0
        due("halves() where z is 0 together", x.halves(), 0);
        softs(x, 5, -4, 3, 3);
        due("halves() where one is below 0", x.halves(), 0b1010);
        x = with(0, 0);
        x.soft(0, -1);
        due("halves() of one place", x.halves(), 1);
        x.soft(0, 0);
        due("halves() of one place", x.halves(), 0);
        halvesMend();
        due("told(4): it leaves none", x.told(4), 3);
    }

    /** Words without wrong places come back for all codes. */
    private static void halvesMend() {
        for (int m = 0; m <= 5; m++) {
            for (int r = 0; r <= m; r++) {
                PlusCodes y = with(r, m);
                y.encode(0x5bd1e995 & -1 >>> 32 - y.of(2));
                y.harden(7);
                due("halves() of order " + r + ", length " + m, y.halves(), y.now());
            }
        }
    }

    private static void merit() {
        CHECKS.part("24 merit");
        PlusCodes x = with(1, 2, 0b1010);
        softs(x, 5, -4, 3, 3);
        due("merit(0)", x.merit(0), 5 + 4 + 3 - 3);
        due("merit(1)", x.merit(1), 9);
        due("merit(2)", x.merit(2), 9);
        x.word(0b0010);
        due("merit(0) of no word", x.merit(0), 15);
        x = with(1, 3, 255);
        softs(x, 99, 99, 99, 99, 99, 99, 99, 99);
        due("merit(0)", x.merit(0), -792);
        due("merit(1)", x.merit(1), 792);
        x = with(1, 3, 0xf0);
        softs(x, 2, 2, 1, 1, 1, 0, 0, -2);
        due("halves(), not the best", x.halves(), 0);
        due("merit(0) of the best", x.merit(0), 7);
        due("merit(1)", x.merit(1), 5);
        due("merit(2)", x.merit(2), 7);
        x = with(0, 5, -1);
        x.harden(99);
        due("merit(2)", x.merit(2), 32 * 99);
        due("merit(0)", x.merit(0), 32 * 99);
        x.soft(31, 99);
        due("merit(0)", x.merit(0), 30 * 99);
        for (int what : new int[] {-1, 3, LOW, HIGH}) {
            int[] before = picture(x);
            due("merit(" + what + ")", x.merit(what), BAD);
            refusedOnce("a bad merit", x, before, 0);
        }
        x = with(3, 5, 3);
        x.soft(0, 2);
        due("merit(0) with 26 terms", x.merit(0), -2);
        due("told(0): -2 is an answer here", x.told(0), 0);
        due("merit(1) with 26 terms", x.merit(1), 2);
        int[] before = picture(x);
        due("merit(2) with 26 terms", x.merit(2), NO);
        refusedOnce("no merit", x, before, 1);
        meritOfAll();
    }

    private static void meritOfAll() {
        PlusCodes x = with(2, 5);
        int most = LOW;
        for (int i = 0; i < 32; i++) {
            x.soft(i, i * 37 % 199 - 99);
        }
        for (int n = 0; n < 40; n++) {
            PlusCodes y = with(2, 5);
            y.encode(n * 1637);
            int sum = 0;
            for (int i = 0; i < 32; i++) {
                sum += (1 - 2 * y.at(i)) * (i * 37 % 199 - 99);
            }
            most = Math.max(most, sum);
        }
        CHECKS.holds("merit(2) is as much as that of any word", x.merit(2) >= most);
        CHECKS.holds("merit(2) is as much as that of halves", x.merit(2) >= x.merit(1));
    }

    // ---- what codes are

    private static void weights() {
        CHECKS.part("25 weights");
        int[] first = new int[33];
        first[0] = first[32] = 1;
        first[16] = 62;
        int[] hamming = new int[33];
        hamming[0] = hamming[16] = 1;
        hamming[4] = hamming[12] = 140;
        hamming[6] = hamming[10] = 448;
        hamming[8] = 870;
        int[] one = new int[33];
        one[0] = one[1] = 1;
        weightsAre(1, 5, first);
        weightsAre(2, 4, hamming);
        weightsAre(0, 0, one);
        PlusCodes x = with(4, 4);
        due("weights(8) of all words", x.weights(8), 12870);
        for (int w : new int[] {-1, 33, LOW, HIGH}) {
            int[] before = picture(x);
            due("weights(" + w + ")", x.weights(w), BAD);
            refusedOnce("a bad weights", x, before, 0);
        }
        x = with(3, 5, 5);
        int[] before = picture(x);
        due("weights(0) with 26 terms", x.weights(0), NO);
        refusedOnce("no weights", x, before, 1);
        before = picture(x);
        due("weights(33) with 26 terms", x.weights(33), BAD);
        refusedOnce("bad weights ahead of no", x, before, 0);
    }

    private static void weightsAre(int r, int m, int[] counts) {
        PlusCodes x = with(r, m);
        for (int w = 0; w <= 32; w++) {
            due("weights(" + w + ") of order " + r + ", length " + m, x.weights(w), counts[w]);
        }
    }

    private static void perpendicular() {
        CHECKS.part("26 perpendicular");
        for (int w = 0; w < 256; w++) {
            PlusCodes x = with(1, 3, w);
            due("perpendicular(): the code is its own opposite", x.perpendicular(), x.isWord());
        }
        PlusCodes x = with(0, 5, 3);
        due("perpendicular()", x.perpendicular(), 1);
        x.word(7);
        due("perpendicular()", x.perpendicular(), 0);
        x = with(5, 5);
        due("perpendicular() of 0", x.perpendicular(), 1);
        x.word(-1);
        due("perpendicular()", x.perpendicular(), 0);
        x = with(4, 5, -1);
        due("perpendicular()", x.perpendicular(), 1);
        x.word(0x7fffffff);
        due("perpendicular()", x.perpendicular(), 0);
    }

    private static void asked() {
        CHECKS.part("27 asked");
        for (int m = 1; m <= 5; m++) {
            for (int r = 0; r < m; r++) {
                askedOfWord(r, m);
            }
        }
        PlusCodes x = with(0, 2, 0b0110);
        // place 0 by 1 and 2: 1, 1; place 1 by 0 and 3: 0, 0; of place 3 as of 0
        int[] due = {1, 0, 0, 1};
        for (int i = 0; i < 4; i++) {
            due("asked(" + i + ")", x.asked(i), due[i]);
        }
        x.word(0b0010);
        due("asked(0) by a tie", x.asked(0), 0);
        x.word(0b0001);
        due("asked(0): its own bit does not count", x.asked(0), 0);
        for (int i : new int[] {-1, 4, LOW, HIGH}) {
            int[] before = picture(x);
            due("asked(" + i + ")", x.asked(i), BAD);
            refusedOnce("a bad asked", x, before, 0);
        }
        x = with(2, 2, 3);
        int[] before = picture(x);
        due("asked(0) where r is m", x.asked(0), NO);
        refusedOnce("no asked", x, before, 1);
        before = picture(x);
        due("asked(4) where r is m", x.asked(4), BAD);
        refusedOnce("a bad asked ahead of no", x, before, 0);
        due("asked(0) of one place", with(0, 0).asked(0), NO);
    }

    /** The place asked for tells itself even if it is the wrong one. */
    private static void askedOfWord(int r, int m) {
        PlusCodes x = with(r, m);
        x.encode(0x5bd1e995 & -1 >>> 32 - x.of(2));
        for (int i = 0; i < x.of(4); i++) {
            int bit = x.at(i);
            due("asked(" + i + ") of a word", x.asked(i), bit);
            x.flip(i);
            due("asked(" + i + ") where it is wrong", x.asked(i), bit);
            x.flip(i);
        }
    }

    // ---- texts

    private static void type() {
        CHECKS.part("28 type");
        PlusCodes x = new PlusCodes();
        for (int k = 1; k <= 120; k++) {
            due("type(" + (k * 7 % 128) + ")", x.type(k * 7 % 128), k);
        }
        int[] before = picture(x);
        due("type(0) into a full text", x.type(0), FULL);
        refusedOnce("a full text", x, before, 2);
        for (int c : new int[] {-1, 128, LOW, HIGH}) {
            before = picture(x);
            due("type(" + c + ") into a full text", x.type(c), BAD);
            refusedOnce("bad ahead of full", x, before, 0);
        }
        x.clear();
        due("type(127)", x.type(127), 1);
        due("type(0)", x.type(0), 2);
        due("told(4): it leaves none", x.told(4), 0);
    }

    private static void clear() {
        CHECKS.part("29 clear");
        PlusCodes x = new PlusCodes();
        due("clear()", x.clear(), 0);
        x.type('v');
        x.type(';');
        due("clear()", x.clear(), 2);
        due("told(3)", x.told(3), 0);
        due("does()", x.does(), -10);
        x.type('h');
        due("clear()", x.clear(), 1);
        due("told(4): it leaves none", x.told(4), 0);
    }

    private static void does() {
        CHECKS.part("30 does");
        ordersDone();
        faultsInOrders();
        faultsInNumbers();
        faultsAtTheEnd();
        boundsAsTheCodeIsThen();
    }

    private static void ordersDone() {
        PlusCodes x = new PlusCodes();
        due("c", tell(x, "c 2 4;"), 1);
        due("of(2)", x.of(2), 11);
        due("told(4): one state", x.told(4), 1);
        due("m", tell(x, "m7ff;"), 1);
        int whole = x.now();
        due("isWord()", x.isWord(), 1);
        due("f and v", tell(x, " f 15 ; v ; "), 2);
        due("now()", x.now(), whole);
        due("told(4): one for both", x.told(4), 3);
        due("told(3): the text stays", x.told(3), 12);
        due("done again", x.does(), 2);
        due("w", tell(x, "w0000ABCD;"), -15);
        due("w", tell(x, "w0000abcd;"), 1);
        due("now()", x.now(), 0xabcd);
        due("s and h", tell(x, "c 2 2;s0-9;s 1 09;s 02 - 1;"), -33);
        due("now()", x.now(), 0xabcd);
        due("s and h", tell(x, "c 2 2;s0-9;s 1 09;s 02 -01;s 3 -0;h;"), 6);
        due("now()", x.now(), 5);
        due("merit(0)", x.merit(0), 19);
        due("c makes all 0", tell(x, "c 2 2;"), 1);
        due("now()", x.now(), 0);
        due("merit(0)", x.merit(0), 0);
        due("back()", x.back(), 6);
        due("merit(0)", x.merit(0), 19);
        due("32 bits", tell(x, "c5 5;wffffffff;"), 2);
        due("now()", x.now(), -1);
        due("32 bits of a message", tell(x, "c5 5;m80000000;"), 2);
        due("now()", x.now(), LOW);
        StringBuilder most = new StringBuilder();
        for (int k = 0; k < 60; k++) {
            most.append("h;");
        }
        due("60 orders", tell(x, most.toString()), 60);
    }

    private static void faultsInOrders() {
        faultNew(";", 0);
        faultNew(" ;", 1);
        faultNew("v;;", 2);
        faultNew("V;", 0);
        faultNew("x;", 0);
        faultNew("vv;", 1);
        faultNew("v 1;", 2);
        faultNew("h h;", 2);
        faultNew("c 1 3 3;", 6);
        faultNew("c 1;", 3);
        faultNew("c;", 1);
        faultNew("c x", 2);
        faultNew("m g;", 2);
        faultNew("m 5g;", 3);
        faultNew("m 5 5;", 4);
        faultNew("f 1 f;", 4);
        faultNew("f 1f;", 3);
        faultNew("f a;", 2);
        faultNew("s 1;", 3);
        faultNew("s 1 2 3;", 6);
        faultNew("s 1 2-3;", 5);
        faultNew("w 1;\tv;", 4);
        faultNew("w-1;", 1);
        faultNew("m-1;", 1);
        faultNew("v;f 7;w ff;s 0 -5;h;!", 20);
    }

    private static void faultsInNumbers() {
        faultNew("c 6 6;", 2);
        faultNew("c 4 3;", 4);
        faultNew("c 0 6;", 4);
        faultNew("c13;", 1);
        faultNew("c 001 3;", 2);
        faultNew("c 1 003;", 4);
        faultNew("c -1 3;", 2);
        faultNew("f 8;", 2);
        faultNew("f 008;", 2);
        faultNew("f 007;", 2);
        faultNew("f -0;", 2);
        faultNew("s 8 1;", 2);
        faultNew("s -1 1;", 2);
        faultNew("s 1 100;", 4);
        faultNew("s 1 -100;", 4);
        faultNew("s 1 -;", 4);
        faultNew("s 1 - 5;", 4);
        faultNew("s 1 --5;", 4);
        faultNew("s 1 +5;", 4);
        faultNew("m 10;", 2);
        faultNew("m 000000001;", 2);
        faultNew("w 100;", 2);
        faultNew("w 000000001;", 2);
        faultNew("w 100000000;", 2);
        due("8 figures", tell(new PlusCodes(), "w 00000001;"), 1);
        due("99", tell(new PlusCodes(), "s 1 99;s 1 -99;s07-09;"), 3);
        due("of(0)", tell(new PlusCodes(), "c 05 05;c00 00;"), 2);
    }

    private static void faultsAtTheEnd() {
        faultNew("", 0);
        faultNew("   ", 3);
        faultNew("v", 1);
        faultNew("v ", 2);
        faultNew("c", 1);
        faultNew("c 1", 3);
        faultNew("c 1 ", 4);
        faultNew("c 1 3", 5);
        faultNew("c 6", 2);
        faultNew("c 4 3", 4);
        faultNew("f 123", 2);
        faultNew("f 8", 2);
        faultNew("s 1 -", 4);
        faultNew("s 1 -5", 6);
        faultNew("s 1 -100", 4);
        faultNew("m 10", 2);
        faultNew("m", 1);
        faultNew("w 000000000", 2);
        faultNew("v;h", 3);
        due("blanks behind the last", tell(new PlusCodes(), "v;   "), 1);
        for (String last : new String[] {"v", "c", "c 1 ", "c 1 3", "m", "m5", "w ", "f", "f 1", "s", "s 1", "s 1 ", "s 1-5", ""}) {
            faultNew(" ".repeat(120 - last.length()) + last, 120);
        }
        faultNew(" ".repeat(115) + "s 1 -", 119);
        due("the last byte ends it", tell(new PlusCodes(), " ".repeat(118) + "v;"), 1);
    }

    private static void boundsAsTheCodeIsThen() {
        PlusCodes x = new PlusCodes();
        due("f 31", tell(x, "c 1 5;f 31;"), 2);
        fault(x, "c 1 4;f 16;", 8);
        due("now(): nothing was done", x.now(), LOW);
        fault(x, "m 40;", 2);
        due("m 3f", tell(x, "m 3f;"), 1);
        fault(x, "c 0 0;s 1 0;", 8);
        fault(x, "c 0 1;w 4;", 8);
        fault(x, "c 4 5;m 80000000;", 8);
        due("c 4 5;m 7fffffff", tell(x, "c 4 5;m 7fffffff;"), 2);
        x = with(0, 2, 5);
        softs(x, -1, 2, -3, 4);
        long before = x.digest();
        x.type('c');
        x.type('0');
        x.type(' ');
        x.type('0');
        x.type(';');
        x.type('?');
        due("does()", x.does(), -15);
        x.clear();
        due("digest(): by a fault nothing is done", x.digest(), before);
    }

    private static void back() {
        CHECKS.part("31 back");
        PlusCodes x = new PlusCodes();
        int[] before = picture(x);
        due("back() of none", x.back(), NO);
        refusedOnce("no back", x, before, 1);
        x.code(2, 2);
        x.word(9);
        x.soft(3, -7);
        x.type('v');
        due("back()", x.back(), 2);
        due("halves()", x.halves(), 0);
        due("now()", x.now(), 9);
        due("back()", x.back(), 1);
        due("now()", x.now(), 0);
        due("of(1)", x.of(1), 2);
        due("back()", x.back(), 0);
        due("of(0)", x.of(0), 1);
        due("of(1)", x.of(1), 3);
        due("of(2)", x.of(2), 4);
        due("term(3)", x.term(3), 4);
        due("told(3): the text stays", x.told(3), 1);
        due("back()", x.back(), NO);
        for (int w = 1; w <= 20; w++) {
            x.word(w);
            due("told(4)", x.told(4), Math.min(w, 8));
        }
        for (int n = 7; n >= 0; n--) {
            due("back()", x.back(), n);
            due("now()", x.now(), 12 + n);
        }
        due("back(): older ones are lost", x.back(), NO);
        due("now()", x.now(), 12);
        due("told(1)", x.told(1), 3);
        x.harden(4);
        x.soft(0, 1);
        x.back();
        due("soft(0, 0)", x.soft(0, 0), 4);
    }

    private static void told() {
        CHECKS.part("32 told");
        PlusCodes x = with(3, 5);
        x.flip(-1);
        x.flip(32);
        x.sign(32);
        x.soft(0, 100);
        x.near();
        x.nearest(0);
        for (int k = 0; k < 123; k++) {
            x.type(32);
        }
        due("told(0)", x.told(0), 4);
        due("told(1)", x.told(1), 2);
        due("told(2)", x.told(2), 3);
        due("told(3)", x.told(3), 120);
        due("told(4)", x.told(4), 1);
        x.does();
        due("told(0): a fault does not count", x.told(0), 4);
        for (int what : new int[] {-1, 5, LOW, HIGH}) {
            int[] before = picture(x);
            due("told(" + what + ")", x.told(what), BAD);
            refusedOnce("a bad told", x, before, 0);
        }
    }

    private static void digest() {
        CHECKS.part("33 digest");
        digestIs("new", new PlusCodes(), new int[8]);
        PlusCodes x = with(0, 1, 2);
        softs(x, -5, 99);
        x.type('v');
        x.at(2);
        x.at(-1);
        digestIs("small", x, new int[] {-5, 99});
        x = with(5, 5, -77);
        x.harden(9);
        x.near();
        int[] hard = new int[32];
        for (int i = 0; i < 32; i++) {
            hard[i] = (-77 >> i & 1) == 0 ? 9 : -9;
        }
        digestIs("great", x, hard);
        long once = x.digest();
        due("digest() twice", x.digest(), once);
    }

    private static void digestIs(String name, PlusCodes x, int[] soft) {
        long h = 2111;
        for (int what = 0; what < 5; what++) {
            h = 31 * h + x.told(what);
        }
        h = (31 * h + x.of(0)) * 31 + x.of(1);
        h = 31 * h + x.now();
        for (int n : soft) {
            h = 31 * h + n;
        }
        h = 31 * h + x.votes();
        due("digest() of a " + name + " one", x.digest(), 31 * h + x.halves());
    }
}
