import java.util.ArrayList;
import java.util.LinkedList;
import java.util.List;
import java.util.TreeMap;

/**
 * The document once more, told as slowly and as near to its words as can be: bits in arrays, sums place by
 * place, recursion by halves for words. It shares no way of working with PlusCodes, so that both going wrong
 * alike is unlikely.
 */
final class Model {
    private static final class Snap {
        int r;
        int m;
        int[] bits;
        int[] soft;
    }

    private static final class Fault extends RuntimeException {
        private static final long serialVersionUID = 1;
        final int place;

        Fault(int place) {
            super(null, null, false, false);
            this.place = place;
        }
    }

    private static final TreeMap<Integer, List<int[]>> WORDS = new TreeMap<>();

    private int r = 1;
    private int m = 3;
    private int[] bits = new int[8];
    private int[] soft = new int[8];
    private String text = "";
    private final LinkedList<Snap> states = new LinkedList<>();
    private final int[] refused = new int[3];
    private final List<int[]> ballots = new ArrayList<>();

    // ---- helpers

    private int places() {
        return bits.length;
    }

    private static int size(int set) {
        int n = 0;
        for (int k = 0; k < 5; k++) {
            n += (set >> k) % 2;
        }
        return n;
    }

    private static boolean isPart(int small, int great) {
        return (small | great) == great;
    }

    private static List<Integer> terms(int r, int m) {
        List<Integer> all = new ArrayList<>();
        for (int n = 0; n <= r; n++) {
            for (int set = 0; set < 1 << m; set++) {
                if (size(set) == n) {
                    all.add(set);
                }
            }
        }
        return all;
    }

    private int k() {
        return terms(r, m).size();
    }

    private static int[] valuesOf(List<Integer> chosen, int places) {
        int[] word = new int[places];
        for (int i = 0; i < places; i++) {
            for (int t : chosen) {
                if (isPart(t, i)) {
                    word[i] = 1 - word[i];
                }
            }
        }
        return word;
    }

    private static int[] encoded(long message, int r, int m) {
        List<Integer> chosen = new ArrayList<>();
        List<Integer> all = terms(r, m);
        for (int j = 0; j < all.size(); j++) {
            if ((message >> j & 1) == 1) {
                chosen.add(all.get(j));
            }
        }
        return valuesOf(chosen, 1 << m);
    }

    /** All words by their messages, each made once. */
    private List<int[]> words() {
        int key = 10 * r + m;
        if (!WORDS.containsKey(key)) {
            List<int[]> all = new ArrayList<>();
            for (long message = 0; message < 1L << k(); message++) {
                all.add(encoded(message, r, m));
            }
            WORDS.put(key, all);
        }
        return WORDS.get(key);
    }

    private static int asInt(int[] word) {
        int w = 0;
        for (int i = 0; i < word.length; i++) {
            w |= word[i] << i;
        }
        return w;
    }

    private static int[] asBits(long w, int places) {
        int[] word = new int[places];
        for (int i = 0; i < places; i++) {
            word[i] = (int) (w >> i & 1);
        }
        return word;
    }

    private static int unlike(int[] a, int[] b) {
        int n = 0;
        for (int i = 0; i < a.length; i++) {
            n += a[i] == b[i] ? 0 : 1;
        }
        return n;
    }

    private static int ones(int[] a) {
        return unlike(a, new int[a.length]);
    }

    private static boolean fits(int value, int many) {
        return many == 32 || value >= 0 && value < 1L << many;
    }

    private int refuse(int which, int answer) {
        refused[which]++;
        return answer;
    }

    private int bad() {
        return refuse(0, -2);
    }

    private int no() {
        return refuse(1, -3);
    }

    private Snap snap() {
        Snap s = new Snap();
        s.r = r;
        s.m = m;
        s.bits = bits.clone();
        s.soft = soft.clone();
        return s;
    }

    private void restore(Snap s) {
        r = s.r;
        m = s.m;
        bits = s.bits.clone();
        soft = s.soft.clone();
    }

    private void leave(Snap s) {
        states.addLast(s);
        if (states.size() > 8) {
            states.removeFirst();
        }
    }

    private void become(int newR, int newM) {
        r = newR;
        m = newM;
        bits = new int[1 << m];
        soft = new int[1 << m];
    }

    // ---- code and word

    int code(int newR, int newM) {
        if (newM < 0 || newM > 5 || newR < 0 || newR > newM) {
            return bad();
        }
        leave(snap());
        become(newR, newM);
        return k();
    }

    int of(int what) {
        int distance = 1;
        for (int n = r; n < m; n++) {
            distance *= 2;
        }
        switch (what) {
            case 0: return r;
            case 1: return m;
            case 2: return k();
            case 3: return distance;
            case 4: return places();
            case 5: return (distance - 1) / 2;
            default: return bad();
        }
    }

    int term(int j) {
        if (j < 0) {
            return bad();
        }
        return j < k() ? terms(r, m).get(j) : -1;
    }

    int word(int w) {
        if (!fits(w, places())) {
            return bad();
        }
        leave(snap());
        bits = asBits(w, places());
        return 1;
    }

    int encode(int message) {
        if (!fits(message, k())) {
            return bad();
        }
        leave(snap());
        bits = encoded(message & 0xffffffffL, r, m);
        return ones(bits);
    }

    int flip(int i) {
        if (i < 0 || i >= places()) {
            return bad();
        }
        leave(snap());
        bits[i] = 1 - bits[i];
        return bits[i];
    }

    int hurt(int seed, int n) {
        if (seed < 0 || seed > 999999 || n < 0 || n > places()) {
            return bad();
        }
        leave(snap());
        boolean[] drawn = new boolean[places()];
        long x = seed;
        for (int c = 0; c < n; c++) {
            x = (x * 1103515245L + 12345L) % 2147483648L;
            int place = (int) (x / 65536 % places());
            while (drawn[place]) {
                place = (place + 1) % places();
            }
            drawn[place] = true;
            bits[place] = 1 - bits[place];
        }
        return ones(bits);
    }

    int now() {
        return asInt(bits);
    }

    int at(int i) {
        return i < 0 || i >= places() ? bad() : bits[i];
    }

    int weight() {
        return ones(bits);
    }

    /** By the construction from two shorter words, not by coefficients. */
    private static boolean belongs(int[] word, int r, int m) {
        if (r < 0) {
            return ones(word) == 0;
        }
        if (m == 0) {
            return true;
        }
        int half = word.length / 2;
        int[] u = new int[half];
        int[] v = new int[half];
        for (int i = 0; i < half; i++) {
            u[i] = word[i];
            v[i] = word[i] ^ word[i + half];
        }
        return belongs(u, Math.min(r, m - 1), m - 1) && belongs(v, r - 1, m - 1);
    }

    int isWord() {
        return belongs(bits, r, m) ? 1 : 0;
    }

    int coefficient(int j) {
        if (j < 0 || j >= places()) {
            return bad();
        }
        int set = terms(m, m).get(j);
        int sum = 0;
        for (int i = 0; i < places(); i++) {
            if (isPart(i, set)) {
                sum += bits[i];
            }
        }
        return sum % 2;
    }

    // ---- mending

    /** The chosen terms; leaves each vote as term, ones, noughts. */
    private List<Integer> elect() {
        ballots.clear();
        List<Integer> chosen = new ArrayList<>();
        int[] rest = bits.clone();
        for (int n = r; n >= 0; n--) {
            List<Integer> level = new ArrayList<>();
            for (int t : terms(r, m)) {
                if (size(t) == n && carried(rest, t)) {
                    level.add(t);
                }
            }
            int[] off = valuesOf(level, places());
            for (int i = 0; i < places(); i++) {
                rest[i] = (rest[i] + off[i]) % 2;
            }
            chosen.addAll(level);
        }
        return chosen;
    }

    private boolean carried(int[] rest, int t) {
        int[] sums = new int[places()];
        for (int i = 0; i < places(); i++) {
            sums[i & ~t] += rest[i];
        }
        int one = 0;
        int nought = 0;
        for (int b = 0; b < places(); b++) {
            if ((b & t) == 0) {
                if (sums[b] % 2 == 1) {
                    one++;
                } else {
                    nought++;
                }
            }
        }
        ballots.add(new int[] {t, one, nought});
        return one > nought;
    }

    int votes() {
        int message = 0;
        for (int t : elect()) {
            message |= 1 << terms(r, m).indexOf(t);
        }
        return message;
    }

    private int[] mended() {
        return valuesOf(elect(), places());
    }

    int vote(int what) {
        int[] whole = mended();
        int ties = 0;
        int[] closest = ballots.get(0);
        for (int[] b : ballots) {
            ties += b[1] == b[2] ? 1 : 0;
            if (Math.abs(b[1] - b[2]) < Math.abs(closest[1] - closest[2])) {
                closest = b;
            }
        }
        switch (what) {
            case 0: return unlike(whole, bits);
            case 1: return ties;
            case 2: return closest[0];
            case 3: return Math.abs(closest[1] - closest[2]);
            default: return bad();
        }
    }

    int mends() {
        int n = vote(0);
        leave(snap());
        bits = mended();
        return n;
    }

    private int signs(int a) {
        int sum = 0;
        for (int i = 0; i < places(); i++) {
            sum += bits[i] == size(a & i) % 2 ? 1 : -1;
        }
        return sum;
    }

    int sign(int a) {
        return a < 0 || a >= places() ? refuse(0, 1000) : signs(a);
    }

    int best(int what) {
        int far = 0;
        for (int a = 0; a < places(); a++) {
            far = Math.max(far, Math.abs(signs(a)));
        }
        List<Integer> all = new ArrayList<>();
        for (int a = 0; a < places(); a++) {
            if (Math.abs(signs(a)) == far) {
                all.add(a);
            }
        }
        switch (what) {
            case 0: return all.get(0);
            case 1: return signs(all.get(0));
            case 2: return all.size();
            default: return bad();
        }
    }

    private List<int[]> nearWords() {
        int least = 99;
        List<int[]> all = new ArrayList<>();
        for (int[] w : words()) {
            int d = unlike(w, bits);
            if (d < least) {
                least = d;
                all.clear();
            }
            if (d == least) {
                all.add(w);
            }
        }
        return all;
    }

    int nearest(int what) {
        if (what != 0 && what != 1) {
            return bad();
        }
        if (k() > 16) {
            return no();
        }
        List<int[]> all = nearWords();
        return what == 0 ? unlike(all.get(0), bits) : all.size();
    }

    int near() {
        return k() > 16 ? refuse(1, 0) : asInt(nearWords().get(0));
    }

    // ---- soft places

    int soft(int i, int n) {
        if (i < 0 || i >= places() || n < -99 || n > 99) {
            return refuse(0, -1000);
        }
        leave(snap());
        int was = soft[i];
        soft[i] = n;
        return was;
    }

    int harden(int n) {
        if (n < 1 || n > 99) {
            return bad();
        }
        leave(snap());
        for (int i = 0; i < places(); i++) {
            soft[i] = bits[i] == 1 ? 0 - n : n;
        }
        return n;
    }

    private static int[] halved(int[] y, int r, int m) {
        int[] word = new int[y.length];
        if (r == 0) {
            int sum = 0;
            for (int n : y) {
                sum += n;
            }
            java.util.Arrays.fill(word, sum >= 0 ? 0 : 1);
            return word;
        }
        if (r == m) {
            for (int i = 0; i < y.length; i++) {
                word[i] = y[i] >= 0 ? 0 : 1;
            }
            return word;
        }
        int half = y.length / 2;
        int[] z = new int[half];
        for (int i = 0; i < half; i++) {
            int sign = (y[i] >= 0 ? 1 : -1) * (y[i + half] >= 0 ? 1 : -1);
            z[i] = sign * Math.min(Math.abs(y[i]), Math.abs(y[i + half]));
        }
        int[] v = halved(z, r - 1, m - 1);
        int[] x = new int[half];
        for (int i = 0; i < half; i++) {
            x[i] = y[i] + (1 - 2 * v[i]) * y[i + half];
        }
        int[] u = halved(x, r, m - 1);
        for (int i = 0; i < half; i++) {
            word[i] = u[i];
            word[i + half] = u[i] == v[i] ? 0 : 1;
        }
        return word;
    }

    int halves() {
        return asInt(halved(soft, r, m));
    }

    private int meritOf(int[] w) {
        int sum = 0;
        for (int i = 0; i < places(); i++) {
            sum += w[i] == 0 ? soft[i] : -soft[i];
        }
        return sum;
    }

    int merit(int what) {
        if (what == 0) {
            return meritOf(bits);
        }
        if (what == 1) {
            return meritOf(halved(soft, r, m));
        }
        if (what != 2) {
            return bad();
        }
        if (k() > 16) {
            return no();
        }
        int most = Integer.MIN_VALUE;
        for (int[] w : words()) {
            most = Math.max(most, meritOf(w));
        }
        return most;
    }

    // ---- what codes are

    int weights(int w) {
        if (w < 0 || w > 32) {
            return bad();
        }
        if (k() > 16) {
            return no();
        }
        int n = 0;
        for (int[] word : words()) {
            n += ones(word) == w ? 1 : 0;
        }
        return n;
    }

    /** The words perpendicular to a code of order r are those of order m less r less 1. */
    int perpendicular() {
        return belongs(bits, m - r - 1, m) ? 1 : 0;
    }

    int asked(int i) {
        if (i < 0 || i >= places()) {
            return bad();
        }
        if (r == m) {
            return no();
        }
        int one = 0;
        int nought = 0;
        for (int a = 0; a < places(); a++) {
            if (size(a) == r + 1) {
                int sum = 0;
                for (int s = 1; s < places(); s++) {
                    if (isPart(s, a)) {
                        sum += bits[i ^ s];
                    }
                }
                if (sum % 2 == 1) {
                    one++;
                } else {
                    nought++;
                }
            }
        }
        return one > nought ? 1 : 0;
    }

    // ---- texts

    int type(int c) {
        if (c < 0 || c > 127) {
            return bad();
        }
        if (text.length() == 120) {
            return refuse(2, -4);
        }
        text += (char) c;
        return text.length();
    }

    int clear() {
        int n = text.length();
        text = "";
        return n;
    }

    /** The text cut into pieces: figures that stand together, perhaps with a - ahead, and single bytes. */
    private List<int[]> pieces(boolean hex, int from) {
        List<int[]> all = new ArrayList<>();
        int i = from;
        while (i < text.length()) {
            int start = i;
            if (text.charAt(i) == '-') {
                i++;
            }
            while (i < text.length() && isFigure(text.charAt(i), hex)) {
                i++;
            }
            if (i == start) {
                i++;
            }
            if (text.charAt(start) != ' ') {
                all.add(new int[] {start, i});
            }
        }
        return all;
    }

    private static boolean isFigure(char c, boolean hex) {
        return (hex ? "0123456789abcdef" : "0123456789").indexOf(c) >= 0;
    }

    private int[] piece(boolean hex, int from) {
        List<int[]> all = pieces(hex, from);
        if (all.isEmpty()) {
            throw new Fault(text.length());
        }
        return all.get(0);
    }

    private int cursor;

    private long number(String form, int radix, long low, long high) {
        int[] p = piece(radix == 16, cursor);
        String s = text.substring(p[0], p[1]);
        if (!s.matches(form)) {
            throw new Fault(p[0]);
        }
        long n = Long.parseLong(s, radix);
        if (n < low || n > high) {
            throw new Fault(p[0]);
        }
        cursor = p[1];
        return n;
    }

    private int plain(int low, int high) {
        return (int) number("[0-9]{1,2}", 10, low, high);
    }

    private void single() {
        String letter = letter();
        if (letter.equals("c")) {
            int newR = plain(0, 5);
            become(newR, plain(newR, 5));
        } else if (letter.equals("m")) {
            bits = encoded(number("[0-9a-f]{1,8}", 16, 0, (1L << k()) - 1), r, m);
        } else if (letter.equals("w")) {
            bits = asBits(number("[0-9a-f]{1,8}", 16, 0, (1L << places()) - 1), places());
        } else if (letter.equals("f")) {
            int i = plain(0, places() - 1);
            bits[i] = 1 - bits[i];
        } else if (letter.equals("v")) {
            bits = mended();
        } else if (letter.equals("s")) {
            int i = plain(0, places() - 1);
            soft[i] = (int) number("-?[0-9]{1,2}", 10, -99, 99);
        } else {
            bits = halved(soft, r, m);
        }
        int[] p = piece(false, cursor);
        if (text.charAt(p[0]) != ';') {
            throw new Fault(p[0]);
        }
        cursor = p[0] + 1;
    }

    private String letter() {
        int[] p = piece(false, cursor);
        String letter = text.substring(p[0], p[0] + 1);
        if (!letter.matches("[cmwfvsh]")) {
            throw new Fault(p[0]);
        }
        cursor = p[0] + 1;
        return letter;
    }

    int does() {
        Snap was = snap();
        cursor = 0;
        int n = 0;
        try {
            do {
                single();
                n++;
            } while (!text.substring(cursor).replace(" ", "").isEmpty());
        } catch (Fault f) {
            restore(was);
            return -10 - f.place;
        }
        leave(was);
        return n;
    }

    int back() {
        if (states.isEmpty()) {
            return no();
        }
        restore(states.removeLast());
        return states.size();
    }

    int told(int what) {
        if (what < 0 || what > 4) {
            return bad();
        }
        if (what < 3) {
            return refused[what];
        }
        return what == 3 ? text.length() : states.size();
    }

    long digest() {
        List<Long> values = new ArrayList<>();
        for (int what = 0; what < 5; what++) {
            values.add((long) told(what));
        }
        values.add((long) r);
        values.add((long) m);
        values.add((long) now());
        for (int n : soft) {
            values.add((long) n);
        }
        values.add((long) votes());
        values.add((long) halves());
        long h = 2111;
        for (long v : values) {
            h = 31 * h + v;
        }
        return h;
    }
}
