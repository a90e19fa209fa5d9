import java.math.BigInteger;
import java.util.ArrayDeque;
import java.util.Deque;
import java.util.function.Supplier;

/**
 * Each sentence of the document that names a boundary case of THE TEXT, its ORDERS and FAULTS, of STATES, of how
 * often refused, of the digest and of 512 calls, from both sides, with a look at all of the object behind it.
 */
public final class TextBoundaryTest {
    private static final Checks CHECKS = new Checks();
    private static final Looks LOOKS = new Looks(CHECKS);
    private static final int BAD = -2;
    private static final int NO = -3;
    private static final int FULL = -4;
    private static final int LOW = Integer.MIN_VALUE;
    private static final int HIGH = Integer.MAX_VALUE;
    private static final int BY_BAD = 0;
    private static final int BY_NO = 1;
    private static final int BY_FULL = 2;
    private static final int[][] TERM_COUNTS = {
        {1}, {1, 2}, {1, 3, 4}, {1, 4, 7, 8}, {1, 5, 11, 15, 16}, {1, 6, 16, 26, 31, 32}
    };

    public static void main(String[] args) {
        bytes();
        fullText();
        clearing();
        emptyText();
        textOf120();
        letters();
        ends();
        codeNumbers();
        hexadecimalFigures();
        hexadecimalBits();
        places();
        softNumbers();
        minus();
        figures();
        blanks();
        faultAtTheEnd();
        tooEarly();
        eachOrderAlone();
        boundsByTheCodeThen();
        firstFaultCounts();
        nothingIsDoneByAFault();
        oneStateByOrders();
        statesAtMost();
        backBounds();
        textStaysByBack();
        toldBounds();
        countsOfRefusals();
        digestEdges();
        callsOf512();
        CHECKS.end();
    }

    // ---- helpers

    private static void due(String call, long got, long want) {
        CHECKS.due(call, got, want);
    }

    /** That object with that text and no other. */
    private static Supplier<PlusCodes> telling(Supplier<PlusCodes> home, String text) {
        return () -> {
            PlusCodes x = home.get();
            x.clear();
            Looks.write(x, text);
            return x;
        };
    }

    private static void fault(int r, int m, String text, int place) {
        for (Supplier<PlusCodes> home : Looks.homes(r, m)) {
            LOOKS.asks("does() by '" + text + "'", telling(home, text), PlusCodes::does, -10 - place);
        }
    }

    /** By the code that is there at first. */
    private static void fault(String text, int place) {
        fault(1, 3, text, place);
    }

    private static void done(int r, int m, String text, int orders) {
        for (Supplier<PlusCodes> home : Looks.homes(r, m)) {
            LOOKS.leaves("does() by '" + text + "'", telling(home, text), PlusCodes::does, orders);
        }
    }

    private static void done(String text, int orders) {
        done(1, 3, text, orders);
    }

    private static PlusCodes behind(int r, int m, String text) {
        PlusCodes x = telling(() -> Looks.bare(r, m), text).get();
        x.does();
        return x;
    }

    private static int lowest(int many) {
        return many == 32 ? -1 : (1 << many) - 1;
    }

    // ---- 28, 29

    private static void bytes() {
        CHECKS.part("28 'A byte (0 .. 127)'");
        for (int c : new int[] {0, 1, 126, 127}) {
            PlusCodes x = Looks.filled(1, 3);
            int had = x.told(3);
            due("type(" + c + ")", x.type(c), had + 1);
            due("told(3)", x.told(3), had + 1);
            due("told(4): no state", x.told(4), 4);
            due("told(0)", x.told(0), 0);
        }
        for (int c : new int[] {-1, 128, 255, 256 + ';', LOW, HIGH}) {
            for (Supplier<PlusCodes> home : Looks.homes(1, 3)) {
                LOOKS.refused("type(" + c + ")", home, x -> x.type(c), BAD, BY_BAD);
            }
        }
        for (int c = 0; c < 128; c++) {
            fault("v;" + (char) c + "!", ("cmwfvsh".indexOf(c) >= 0 || c == ' ') ? 3 : 2);
        }
    }

    private static void fullText() {
        CHECKS.part("28 'FULL: 120', 'the first of: BAD, NO, FULL'");
        PlusCodes x = new PlusCodes();
        for (int n = 1; n <= 120; n++) {
            due("type of byte " + n, x.type(' '), n);
            due("told(2)", x.told(2), 0);
        }
        for (int n = 1; n <= 3; n++) {
            due("type of one more", x.type('v'), FULL);
            due("told(2)", x.told(2), n);
            due("told(3)", x.told(3), 120);
        }
        for (int c : new int[] {0, ';', 127}) {
            LOOKS.refused("type(" + c + ") into 120", () -> Looks.crowded(1, 3), y -> y.type(c), FULL, BY_FULL);
        }
        for (int c : new int[] {-1, 128}) {
            LOOKS.refused("type(" + c + ") into 120", () -> Looks.crowded(1, 3), y -> y.type(c), BAD, BY_BAD);
        }
        due("does(): the bytes refused are not there", x.does(), -130);
        due("clear()", x.clear(), 120);
        due("type behind clear()", x.type(';'), 1);
        due("told(2)", x.told(2), 3);
    }

    private static void clearing() {
        CHECKS.part("29 'THE TEXT is empty: how many it had'");
        for (int n : new int[] {0, 1, 119, 120}) {
            for (Supplier<PlusCodes> home : Looks.homes(2, 4)) {
                PlusCodes x = telling(home, "v;" + " ".repeat(118)).get();
                int states = x.told(4);
                x.clear();
                Looks.write(x, "v;".repeat(60).substring(0, n));
                due("clear() of " + n, x.clear(), n);
                due("told(3)", x.told(3), 0);
                due("told(4): no state", x.told(4), states);
                due("does()", x.does(), -10);
                due("clear() again", x.clear(), 0);
                Looks.write(x, "h;");
                due("does() of what came then", x.does(), 1);
            }
        }
    }

    // ---- 30: the text's length

    private static void emptyText() {
        CHECKS.part("30 'the TEXT's length, if it ends too early (an empty one, too)'");
        fault(1, 3, "", 0);
        fault(0, 0, "", 0);
        fault(5, 5, "", 0);
        fault(" ", 1);
        fault(" ".repeat(119), 119);
        fault(" ".repeat(120), 120);
    }

    private static void textOf120() {
        CHECKS.part("30 'THE TEXT (120 bytes at most)'");
        done("v;".repeat(60), 60);
        done("v;".repeat(59), 59);
        done("v;".repeat(59) + " ", 59);
        done("v;".repeat(59) + "  ", 59);
        fault("v;".repeat(59) + "v", 119);
        fault("v;".repeat(59) + "v ", 120);
        fault("v;".repeat(59) + "v!", 119);
        fault("v;".repeat(59) + "v;".substring(1) + "v", 118);
        done(" ".repeat(118) + "v;", 1);
        done("v" + " ".repeat(118) + ";", 1);
        done("v;" + " ".repeat(118), 1);
        fault("v" + " ".repeat(119), 120);
        fault(" ".repeat(118) + "f0", 120);
        fault(" ".repeat(118) + "f8", 119);
        fault(" ".repeat(119) + ";", 119);
        done(5, 5, "s 31 -99;".repeat(13) + "h ;", 14);
    }

    // ---- 30: orders

    private static void letters() {
        CHECKS.part("30 'the place of the first byte that can not stand there': where an order begins");
        for (int c = 0; c < 128; c++) {
            String text = (char) c + ";";
            if ("vh".indexOf(c) >= 0) {
                done(text, 1);
            } else if ("cmwfs".indexOf(c) >= 0 || c == ' ') {
                fault(text, 1);
            } else {
                fault(text, 0);
            }
        }
    }

    private static void ends() {
        CHECKS.part("30 'each ended by ;': where it ends");
        for (int c = 0; c < 128; c++) {
            boolean figure = c >= '0' && c <= '9';
            boolean hexadecimal = figure || c >= 'a' && c <= 'f';
            if (c != ';' && c != ' ') {
                fault("v" + (char) c, 1);
                fault("v" + (char) c + ";", 1);
                fault("f 7" + (char) c + ";", figure ? 2 : 3);
                fault("m f" + (char) c + ";", hexadecimal ? 2 : 3);
            }
        }
        for (String end : new String[] {";", " ;", "; "}) {
            done("v" + end, 1);
            done("f 7" + end, 1);
            done("m f" + end, 1);
        }
    }

    private static void codeNumbers() {
        CHECKS.part("30 'c r m (the CODE; r above m: FAULT at m)'");
        for (int r = 0; r < 100; r++) {
            for (int m = 0; m < 100; m++) {
                if (r > 7 && m > 7 && (r % 10 > 1 || m % 10 > 1)) {
                    continue;
                }
                String text = "c " + r + " " + m + ";";
                PlusCodes x = behind(1, 3, text);
                int place = r > 5 ? 2 : m > 5 || m < r ? 3 + Integer.toString(r).length() : -1;
                due("does() by '" + text + "'", x.does(), place < 0 ? 1 : -10 - place);
                due("of(0) then", x.of(0), place < 0 ? r : 1);
                due("of(1) then", x.of(1), place < 0 ? m : 3);
            }
        }
        done("c 0 0;", 1);
        done("c 5 5;", 1);
        done("c 0 5;", 1);
        fault("c 5 4;", 4);
        fault("c 1 0;", 4);
        fault("c 6 6;", 2);
        fault("c 5 6;", 4);
        fault("c 0 -1;", 4);
        fault("c -1 0;", 2);
        fault("c 6 !", 2);
        fault("c 5 !", 4);
        orderOfCodeMakesAllNought();
    }

    private static void orderOfCodeMakesAllNought() {
        PlusCodes x = telling(() -> Looks.crowded(2, 5), "c 2 5;").get();
        due("does()", x.does(), 1);
        due("now()", x.now(), 0);
        for (int i = 0; i < 32; i++) {
            due("soft(" + i + ", 0)", x.soft(i, 0), 0);
        }
    }

    private static void hexadecimalFigures() {
        CHECKS.part("30 'hexadecimal figures 0 .. 9, a .. f, 8 at most'");
        for (String letter : new String[] {"m", "w"}) {
            for (int c = 0; c < 128; c++) {
                int value = "0123456789abcdef".indexOf(c);
                String text = letter + (char) c + ";";
                if (value >= 0) {
                    done(5, 5, text, 1);
                    PlusCodes x = behind(5, 5, text);
                    due("the number of '" + text + "'", letter.equals("m") ? x.votes() : x.now(), value);
                } else {
                    fault(5, 5, text, c == ' ' ? 2 : 1);
                }
            }
            done(5, 5, letter + "1234567;", 1);
            done(5, 5, letter + "12345678;", 1);
            fault(5, 5, letter + "123456789;", 1);
            done(5, 5, letter + " 00000000;", 1);
            fault(5, 5, letter + " 000000000;", 2);
            fault(5, 5, letter + " 000000001;", 2);
            fault(5, 5, letter + " 1000000000000000f;", 2);
            fault(5, 5, letter + ";", 1);
            fault(5, 5, letter + " ;", 2);
            fault(5, 5, letter + "-1;", 1);
            fault(5, 5, letter + " A;", 2);
            fault(5, 5, letter + " aA;", 3);
            fault(5, 5, letter + " 0x1;", 3);
            done(5, 5, letter + "ffffffff;", 1);
            done(5, 5, letter + "80000000;", 1);
        }
        due("now() by eight f", behind(5, 5, "wffffffff;").now(), -1);
        due("now() by 8 and seven 0", behind(5, 5, "w80000000;").now(), LOW);
        due("votes() by eight f", behind(5, 5, "mffffffff;").votes(), -1);
        due("now() by leading 0s", behind(1, 3, "w000000a5;").now(), 0xa5);
    }

    private static void hexadecimalBits() {
        CHECKS.part("30 'Bounds as by the calls': bits beyond K, beyond PLACES");
        for (int m = 0; m <= 5; m++) {
            for (int r = 0; r <= m; r++) {
                numberOfBits("m", r, m, TERM_COUNTS[m][r]);
                numberOfBits("w", r, m, 1 << m);
            }
        }
    }

    private static void numberOfBits(String letter, int r, int m, int many) {
        String most = Integer.toHexString(lowest(many));
        done(r, m, letter + most + ";", 1);
        done(r, m, letter + Integer.toHexString(1 << many - 1) + ";", 1);
        done(r, m, letter + "0;", 1);
        for (int j = many; j < 32; j++) {
            fault(r, m, letter + " " + Integer.toHexString(1 << j) + ";", 2);
        }
        if (many < 32) {
            fault(r, m, letter + " ffffffff;", 2);
            fault(r, m, letter + Integer.toHexString(1 << many | 1) + ";", 1);
        }
    }

    private static void places() {
        CHECKS.part("30 'f i', 's i n': PLACES as by the calls");
        for (int m = 0; m <= 5; m++) {
            for (int i = 0; i < 100; i++) {
                if (i < 1 << m) {
                    done(m, m, "f " + i + ";", 1);
                    done(0, m, "s " + i + " 9;", 1);
                    due("now() by f " + i, behind(m, m, "f " + i + ";").now(), 1 << i);
                    due("soft() by s " + i + " 9", behind(m, m, "s" + i + " 9;").soft(i, 0), 9);
                } else if (i < (1 << m) + 3 || i > 97 || i % 32 == 0) {
                    fault(m, m, "f " + i + ";", 2);
                    fault(0, m, "s " + i + " 9;", 2);
                }
            }
            fault(m, m, "f -0;", 2);
            fault(m, m, "f -1;", 2);
            fault(m, m, "s -0 1;", 2);
        }
        due("now() by f 1 twice", behind(1, 3, "f 1;f 1;").now(), 0);
        due("now() by f 1 thrice", behind(1, 3, "f1;f1;f1;").now(), 2);
    }

    private static void softNumbers() {
        CHECKS.part("30 's i n (SOFT PLACE; n perhaps with a - ahead)', -99 .. 99");
        for (int n = -99; n <= 99; n++) {
            PlusCodes x = behind(1, 3, "s 7 " + n + ";");
            due("told(4) by s 7 " + n, x.told(4), 2);
            due("soft() by s 7 " + n, x.soft(7, 0), n);
        }
        done("s 7 99;", 1);
        done("s 7 -99;", 1);
        done("s 7 0;", 1);
        done("s 7 -0;", 1);
        done("s 7 -00;", 1);
        fault("s 7 100;", 4);
        fault("s 7 -100;", 4);
        fault("s 7 099;", 4);
        fault("s 7 -099;", 4);
        fault("s 7 +1;", 4);
    }

    private static void minus() {
        CHECKS.part("30 'of a - without figures, at the end, too: its first byte'");
        fault("s 7 -;", 4);
        fault("s 7 -", 4);
        fault("s 7 - ", 4);
        fault("s 7 - 1;", 4);
        fault("s 7 --1;", 4);
        fault("s 7 -a;", 4);
        fault("s7-;", 2);
        fault("s7-", 2);
        fault("s 7 1-;", 5);
        fault("s 7 1 -;", 6);
        fault("s -;", 2);
        fault("s -", 2);
        fault("s 7-100", 3);
        fault(" ".repeat(117) + "s7-", 119);
        fault("-", 0);
        fault("-1;", 0);
        fault("v-;", 1);
        done("s7-1;", 1);
        done("s 7-01;", 1);
    }

    private static void figures() {
        CHECKS.part("30 'Numbers have 1 or 2 figures (leading 0s, too)'");
        done("c 01 03;", 1);
        done("c 1 03;", 1);
        done("f 07;", 1);
        done("s 07 09;", 1);
        done("s 07 -09;", 1);
        fault("c 001 3;", 2);
        fault("c 1 003;", 4);
        fault("f 007;", 2);
        fault("f 000;", 2);
        fault("s 007 9;", 2);
        fault("s 7 009;", 4);
        fault("s 7 -009;", 4);
        fault("f ;", 2);
        fault("c ;", 2);
        fault("c 1;", 3);
        fault("s ;", 2);
        fault("s 7;", 3);
        // numbers so long that their value goes round: 4294967297 is 1 by 2 to the 32
        fault("f 4294967297;", 2);
        fault("s 1 4294967297;", 4);
        fault("s 1 18446744073709551617;", 4);
        fault("w 100000001;", 2);
        for (int c = 0; c < 128; c++) {
            if (c >= '0' && c <= '7') {
                done("f" + (char) c + ";", 1);
                due("now() by f" + (char) c, behind(1, 3, "f" + (char) c + ";").now(), 1 << c - '0');
            } else {
                fault("f" + (char) c + ";", c == ' ' ? 2 : 1);
            }
        }
    }

    private static void blanks() {
        CHECKS.part("30 'Blanks (32) may stand anywhere but in numbers, needed only between figures'");
        String[] parts = {"c", "02", "05", ";", "m", "1a", ";", "w", "0fed", ";", "f", "31", ";", "v", ";", "s", "30", "-98", ";", "h", ";"};
        for (int gap = 0; gap <= parts.length; gap++) {
            StringBuilder text = new StringBuilder();
            for (int k = 0; k <= parts.length; k++) {
                text.append(k == gap ? "   " : "");
                text.append(k == 2 && gap != 2 ? " " : "");
                text.append(k < parts.length ? parts[k] : "");
            }
            done(text.toString(), 7);
            due("now() by '" + text + "'", behind(1, 3, text.toString()).now(), behind(1, 3, "c2 5;s30-98;h;").now());
        }
        fault("c13;", 1);
        fault("c013;", 1);
        fault("c1 ;", 3);
        fault("s71;", 1);
        fault("s 0 1 2;", 6);
        fault(1, 5, "f 1 2;", 4);
        fault(1, 5, "s 1 2 -34;", 6);
        fault(1, 5, "s 12 - 34;", 5);
        fault(1, 5, "s 12 -3 4;", 8);
        fault(5, 5, "m 1 2;", 4);
        fault(5, 5, "w f f;", 4);
        done("mc;", 1);
        done("m c;f 1;", 2);
        CHECKS.part("30 no other byte is a blank");
        for (int c : new int[] {0, 9, 10, 11, 12, 13, 31, 33, 127}) {
            fault("v" + (char) c + ";", 1);
            fault((char) c + "v;", 0);
            fault("v;" + (char) c, 2);
            fault("f" + (char) c + "1;", 1);
            fault("s 1" + (char) c + "2;", 3);
        }
    }

    private static void faultAtTheEnd() {
        CHECKS.part("30 'of a number not as told .. at the end, too: its first byte'");
        fault("f 8", 2);
        fault("f 123", 2);
        fault("f 008", 2);
        fault("c 6", 2);
        fault("c 1 0", 4);
        fault("c 0 6", 4);
        fault("c 0 003", 4);
        fault("m 10", 2);
        fault("w 100", 2);
        fault("w 000000000", 2);
        fault("s 8", 2);
        fault("s 0 100", 4);
        fault("s 0 -100", 4);
        fault("v;f 8", 4);
    }

    private static void tooEarly() {
        CHECKS.part("30 'the TEXT's length, if it ends too early'");
        String[] whole = {"c 1 3;", "m f;", "w ff;", "f 7;", "v;", "s 7 99;", "s 7 -9;", "h;", "v ;", "h  ;"};
        for (String text : whole) {
            done(text, 1);
            done("v;" + text, 2);
            for (int n = 1; n < text.length(); n++) {
                String cut = text.substring(0, n);
                int place = cut.endsWith("-") ? n - 1 : n;
                fault(cut, place);
                fault("v;" + cut, place + 2);
                fault(" ".repeat(120 - n) + cut, 120 - n + place);
                bytesBehindTheEnd(text, cut, place);
            }
        }
    }

    /** A longer text was there ahead and was cleared: its bytes are no more, even where they lie behind the end. */
    private static void bytesBehindTheEnd(String longer, String text, int place) {
        PlusCodes x = new PlusCodes();
        Looks.write(x, longer);
        x.clear();
        Looks.write(x, text);
        due("does() by '" + text + "' where '" + longer + "' was", x.does(), -10 - place);
        due("told(4)", x.told(4), 0);
    }

    private static void eachOrderAlone() {
        CHECKS.part("30 each order does its own and no more");
        String[] orders = {"c 1 3;", "m 2;", "w 12;", "f 3;", "v;", "s 3 -99;", "h;"};
        // h: z is 0, -1, 0, 0, so v is 1111; u is of 7, -2, -7, 0: 0110
        int[] words = {0, 0xaa, 0x12, 0x0e, 0, 0x06, 0x96};
        int[] softs = {0, -7, -7, -7, -7, -7, -7};
        for (int k = 0; k < orders.length; k++) {
            PlusCodes x = behind(1, 3, "w 6;s 2 -7;s 0 7;s 1 -1;s 5 1;" + orders[k]);
            due("told(4)", x.told(4), 2);
            due("now() by " + orders[k], x.now(), words[k]);
            due("soft(2, 0) by " + orders[k], x.soft(2, 0), softs[k]);
            due("soft(3, 0) by " + orders[k], x.soft(3, 0), orders[k].startsWith("s") ? -99 : 0);
        }
    }

    private static void boundsByTheCodeThen() {
        CHECKS.part("30 'by the CODE as it is then'");
        done(0, 0, "c 1 5;f 31;m 3f;w ffffffff;s 31 9;", 5);
        done(0, 0, "c 0 1;f 1;c 0 0;f 0;", 4);
        fault(0, 0, "f 1;c 1 5;", 2);
        fault(1, 5, "c 1 4;f 16;", 8);
        fault(1, 5, "c 1 4;m 20;", 8);
        done(1, 5, "c 1 4;m 1f;", 2);
        fault(1, 5, "c 1 4;w 10000;", 8);
        done(1, 5, "c 1 4;w ffff;", 2);
        fault(1, 5, "c 1 4;s 16 0;", 8);
        fault(1, 5, "c 1 4;c 0 0;f 1;", 14);
        fault(5, 5, "c 4 5;m 80000000;", 8);
        done(5, 5, "c 4 5;m 7fffffff;", 2);
        done(4, 5, "c 5 5;m 80000000;", 2);
    }

    private static void firstFaultCounts() {
        CHECKS.part("30 'the place of the first byte that can not stand there'");
        fault("f 8;f 9;!", 2);
        fault("v;!;f 9;", 2);
        fault("c 4 3;f 9;", 4);
        fault("f 8!", 2);
        fault("f 7!;f 8", 3);
        fault(";;", 0);
        fault("v;;", 2);
        fault("v;v;;", 4);
        fault("v;v;x", 4);
    }

    private static void nothingIsDoneByAFault() {
        CHECKS.part("'If there is one, nothing is done', 'By a FAULT nothing counts'");
        String[] work = {"c 0 2;", "m 1;", "w 1;", "f 0;", "v;", "s 0 -7;", "h;", "c 0 0;w1;s0 9;"};
        for (int m = 0; m <= 5; m++) {
            for (String text : work) {
                int place = text.length();
                fault(m, m, text + "!", place);
                fault(m, m, text + "f 32;", place + 2);
                fault(m, m, text + "f", place + 1);
                fault(m, m, text.substring(0, place - 1), place - 1);
            }
        }
    }

    private static void oneStateByOrders() {
        CHECKS.part("30 'S (one)', THE TEXT stays");
        String orders = "c 0 2;w f;f 1;s 0 -9;v;h;m 1;";
        for (Supplier<PlusCodes> home : Looks.homes(2, 5)) {
            PlusCodes x = telling(home, orders).get();
            int had = x.told(4);
            int word = x.now();
            due("does()", x.does(), 7);
            due("told(4)", x.told(4), Math.min(8, had + 1));
            due("told(3)", x.told(3), orders.length());
            due("does() again", x.does(), 7);
            due("told(4)", x.told(4), Math.min(8, had + 2));
            x.back();
            due("back()", x.back(), Math.min(6, had));
            due("now()", x.now(), word);
            due("of(1)", x.of(1), 5);
        }
    }

    // ---- 31: states

    /** All ways of some states left, some gone back to, some left again: the ring goes round more than once. */
    private static void statesAtMost() {
        CHECKS.part("'STATES .. 8 at most, older ones lost'");
        for (int first = 0; first <= 20; first++) {
            for (int backs = 0; backs <= 9; backs++) {
                for (int then = 0; then <= 10; then++) {
                    Past past = new Past(first + " left, " + backs + " back, " + then + " left: ");
                    past.leave(first);
                    past.goBack(backs);
                    past.leave(then);
                    past.goBack(9);
                }
            }
        }
    }

    /** An object beside a plain row of the words it can go back to. */
    private static final class Past {
        private final String way;
        private final PlusCodes x = new PlusCodes();
        private final Deque<Integer> words = new ArrayDeque<>();
        private int word;
        private int refused;

        Past(String way) {
            this.way = way;
        }

        void leave(int times) {
            for (int n = 0; n < times; n++) {
                words.addLast(word);
                if (words.size() > 8) {
                    words.removeFirst();
                }
                word = (5 * word + 3) % 256;
                due(way + "word()", x.word(word), 1);
                look();
            }
        }

        void goBack(int times) {
            for (int n = 0; n < times; n++) {
                if (words.isEmpty()) {
                    refused++;
                    due(way + "back() of none", x.back(), NO);
                } else {
                    word = words.removeLast();
                    due(way + "back()", x.back(), words.size());
                }
                look();
            }
        }

        private void look() {
            due(way + "now()", x.now(), word);
            due(way + "told(4)", x.told(4), words.size());
            due(way + "told(1)", x.told(1), refused);
        }
    }

    private static void backBounds() {
        CHECKS.part("31 'how many can be yet. NO: none.'");
        LOOKS.refused("back() of a new one", PlusCodes::new, PlusCodes::back, NO, BY_NO);
        for (Supplier<PlusCodes> home : Looks.homes(2, 5)) {
            LOOKS.refused("back() when all are gone back to", () -> {
                PlusCodes x = home.get();
                for (int n = x.told(4); n > 0; n--) {
                    due("back()", x.back(), n - 1);
                }
                return x;
            }, PlusCodes::back, NO, BY_NO);
        }
    }

    private static void textStaysByBack() {
        CHECKS.part("'STATES .. (CODE, THE WORD, SOFT PLACES)': not THE TEXT, not how often");
        PlusCodes x = new PlusCodes();
        x.word(5);
        Looks.write(x, "v;");
        x.at(8);
        x.asked(-1);
        due("back()", x.back(), 0);
        due("told(0)", x.told(0), 2);
        due("told(3)", x.told(3), 2);
        due("does()", x.does(), 1);
        x.clear();
        due("back()", x.back(), 0);
        due("told(3)", x.told(3), 0);
    }

    // ---- 32, 33

    private static void toldBounds() {
        CHECKS.part("32 (0) .. (4)");
        for (Supplier<PlusCodes> home : Looks.homes(3, 5)) {
            PlusCodes x = home.get();
            int[] told = {x.told(0), x.told(1), x.told(2), x.told(3), x.told(4)};
            for (int what = 0; what < 5; what++) {
                int n = what;
                LOOKS.asks("told(" + n + ")", home, y -> y.told(n), told[n]);
            }
            for (int what : new int[] {-1, 5, LOW, HIGH}) {
                LOOKS.refused("told(" + what + ")", home, y -> y.told(what), BAD, BY_BAD);
            }
        }
    }

    private static void countsOfRefusals() {
        CHECKS.part("'Refused, changing nothing but how often': each kind for itself");
        PlusCodes x = Looks.crowded(5, 5);
        int[] told = {x.told(0), x.told(1), x.told(2)};
        due("told(0): one already", told[0], 1);
        due("told(1): one already", told[1], 1);
        due("told(2): one already", told[2], 1);
        for (int n = 1; n <= 20; n++) {
            x.near();
            x.weights(32);
            x.type(0);
            x.type(-1);
            x.told(5);
            x.soft(0, 100);
            due("told(0)", x.told(0), told[0] + 3 * n);
            due("told(1)", x.told(1), told[1] + 2 * n);
            due("told(2)", x.told(2), told[2] + n);
        }
    }

    private static void digestEdges() {
        CHECKS.part("33 'SOFT PLACES of all PLACES', h goes round");
        for (int m = 0; m <= 5; m++) {
            for (int r = 0; r <= m; r++) {
                for (Supplier<PlusCodes> home : Looks.homes(r, m)) {
                    LOOKS.asks("digest() of order " + r + ", length " + m, home, PlusCodes::digest, digestOf(home));
                }
            }
        }
        LOOKS.asks("digest() of a new one", PlusCodes::new, PlusCodes::digest, digestOf(PlusCodes::new));
        Supplier<PlusCodes> least = () -> {
            PlusCodes x = Looks.bare(5, 5);
            x.word(-1);
            x.harden(99);
            return x;
        };
        LOOKS.asks("digest() of the least numbers", least, PlusCodes::digest, digestOf(least));
    }

    /** With numbers that can not go round before the end. */
    private static long digestOf(Supplier<PlusCodes> home) {
        PlusCodes x = home.get();
        BigInteger h = BigInteger.valueOf(2111);
        for (int what = 0; what < 5; what++) {
            h = next(h, x.told(what));
        }
        h = next(next(next(h, x.of(0)), x.of(1)), x.now());
        PlusCodes softs = home.get();
        for (int i = 0; i < x.of(4); i++) {
            h = next(h, softs.soft(i, 0));
        }
        return next(next(h, x.votes()), x.halves()).longValue();
    }

    private static BigInteger next(BigInteger h, int v) {
        return h.multiply(BigInteger.valueOf(31)).add(BigInteger.valueOf(v));
    }

    // ---- 512 calls

    private static void callsOf512() {
        CHECKS.part("'at most 512 calls'");
        PlusCodes x = new PlusCodes();
        for (int n = 1; n < 512; n++) {
            due("call " + n + ", refused", x.flip(8), BAD);
        }
        due("call 512", x.told(0), 511);
        x = new PlusCodes();
        for (int n = 1; n < 512; n++) {
            due("call " + n + ", of no state", x.back(), NO);
        }
        due("call 512", x.told(1), 511);
        x = new PlusCodes();
        for (int n = 1; n < 512; n++) {
            due("call " + n + ", typed", x.type(n % 128), n <= 120 ? n : FULL);
        }
        due("call 512", x.told(2), 391);
        x = new PlusCodes();
        for (int n = 1; n < 512; n++) {
            due("call " + n + ", leaves one", x.word(n % 256), 1);
        }
        due("call 512", x.back(), 7);
        x = new PlusCodes();
        x.code(2, 5);
        for (int n = 2; n < 512; n++) {
            due("call " + n + ", goes through all", x.near(), 0);
        }
        due("call 512", x.merit(2), 0);
        x = new PlusCodes();
        Looks.write(x, "f 7;");
        for (int n = 5; n <= 512; n++) {
            due("call " + n + ", does", x.does(), 1);
        }
    }
}
