import java.util.Random;

/** Long runs of calls, drawn with fixed seeds, on PlusCodes and on the slow Model: each answer has to be alike. */
public final class ModelTest {
    private static final int RUNS = 400;
    private static final int CALLS = 512;
    private static final int RICH_RUNS = 360;
    private static final Checks CHECKS = new Checks();
    private static final String BYTES = "cmwfvsh;;;; 0123456789abcdef--xC\t";

    private final Random random;
    private final PlusCodes real = new PlusCodes();
    private final Model model = new Model();
    private String said;
    private long got;
    private long want;
    private String pending = "";

    private ModelTest(long seed) {
        random = new Random(seed);
    }

    public static void main(String[] args) {
        for (int run = 0; run < RUNS && CHECKS.wrong() < 20; run++) {
            CHECKS.part("run " + run);
            new ModelTest(run).run(run % 4 == 3);
        }
        for (int run = 0; run < RICH_RUNS && CHECKS.wrong() < 20; run++) {
            CHECKS.part("rich run " + run);
            new ModelTest(run).runRich(run);
        }
        CHECKS.end();
    }

    /** Each code in turn with a hurt word and all places soft: the plain runs seldom have many of both. */
    private void runRich(int run) {
        int m = run % 6;
        int r = run / 6 % (m + 1);
        int range = run % 2 == 0 ? 99 : 3;
        ask("code(" + r + ", " + m + ")", real.code(r, m), model.code(r, m));
        for (int round = 0; round < 4; round++) {
            int message = random.nextInt() >>> 32 - model.of(2);
            int n = upTo(Math.min(model.of(4), 2 * model.of(5) + 1));
            ask("encode(" + message + ")", real.encode(message), model.encode(message));
            ask("hurt(" + run + ", " + n + ")", real.hurt(run, n), model.hurt(run, n));
            for (int i = 0; i <= lastPlace(); i++) {
                int soft = upTo(2 * range) - range;
                ask("soft(" + i + ", " + soft + ")", real.soft(i, soft), model.soft(i, soft));
            }
            for (int which = 11; which < 28; which++) {
                if (which != 15 && (which < 20 || which > 22)) {
                    step(which);
                    CHECKS.due(said, got, want);
                }
            }
            for (int what = 0; what < 4; what++) {
                ask("vote(" + what + ")", real.vote(what), model.vote(what));
                ask("merit(" + what + ")", real.merit(what), model.merit(what));
                ask("best(" + what + ")", real.best(what), model.best(what));
            }
            ask("digest()", real.digest(), model.digest());
        }
    }

    private void ask(String call, long a, long b) {
        answers(call, a, b);
        CHECKS.due(said, got, want);
    }

    private void run(boolean texts) {
        for (int call = 0; call < CALLS; call++) {
            if (!pending.isEmpty()) {
                typeNext();
            } else {
                step(texts ? 26 + random.nextInt(9) : random.nextInt(34));
            }
            CHECKS.due("call " + call + " " + said, got, want);
        }
    }

    private int upTo(int n) {
        return random.nextInt(n + 1);
    }

    /** Mostly within 0 .. top, now and then beside it or far off. */
    private int around(int top) {
        switch (random.nextInt(16)) {
            case 0: return -1;
            case 1: return top + 1;
            case 2: return random.nextInt();
            default: return upTo(top);
        }
    }

    private int lastPlace() {
        return model.of(4) - 1;
    }

    private void answers(String call, long a, long b) {
        said = call;
        got = a;
        want = b;
    }

    private void typeNext() {
        int c = pending.charAt(0);
        pending = pending.substring(1);
        answers("type(" + c + ")", real.type(c), model.type(c));
    }

    private void step(int which) {
        if (which < 13) {
            stepWord(which);
        } else if (which < 20) {
            stepMend(which);
        } else if (which < 26) {
            stepSoft(which);
        } else {
            stepText(which);
        }
    }

    private void stepWord(int which) {
        int x = around(5);
        int m = around(5);
        switch (which) {
            case 0: case 1:
                x = m >= 0 && m <= 5 ? around(m) : x;
                answers("code(" + x + ", " + m + ")", real.code(x, m), model.code(x, m));
                break;
            case 2: answers("of(" + x + ")", real.of(x), model.of(x)); break;
            case 3: x = around(model.of(2)); answers("term(" + x + ")", real.term(x), model.term(x)); break;
            case 4: x = someBits(model.of(4)); answers("word(" + x + ")", real.word(x), model.word(x)); break;
            case 5: x = someBits(model.of(2)); answers("encode(" + x + ")", real.encode(x), model.encode(x)); break;
            case 6: x = around(lastPlace()); answers("flip(" + x + ")", real.flip(x), model.flip(x)); break;
            case 7:
                x = around(999999);
                m = random.nextInt(3) == 0 ? around(lastPlace() + 1) : upTo(3);
                answers("hurt(" + x + ", " + m + ")", real.hurt(x, m), model.hurt(x, m));
                break;
            case 8: answers("now()", real.now(), model.now()); break;
            case 9: x = around(lastPlace()); answers("at(" + x + ")", real.at(x), model.at(x)); break;
            case 10: answers("weight()", real.weight(), model.weight()); break;
            case 11: answers("isWord()", real.isWord(), model.isWord()); break;
            default:
                x = around(lastPlace());
                answers("coefficient(" + x + ")", real.coefficient(x), model.coefficient(x));
                break;
        }
    }

    private int someBits(int many) {
        int w = random.nextInt();
        return random.nextInt(8) == 0 ? w : w >>> 32 - many;
    }

    private void stepMend(int which) {
        int x = around(3);
        switch (which) {
            case 13: answers("votes()", real.votes(), model.votes()); break;
            case 14: answers("vote(" + x + ")", real.vote(x), model.vote(x)); break;
            case 15: answers("mends()", real.mends(), model.mends()); break;
            case 16: x = around(lastPlace()); answers("sign(" + x + ")", real.sign(x), model.sign(x)); break;
            case 17: x = around(2); answers("best(" + x + ")", real.best(x), model.best(x)); break;
            case 18: x = around(1); answers("nearest(" + x + ")", real.nearest(x), model.nearest(x)); break;
            default: answers("near()", real.near(), model.near()); break;
        }
    }

    private void stepSoft(int which) {
        int x = around(lastPlace());
        int n = around(198) - 99;
        switch (which) {
            case 20: case 21: answers("soft(" + x + ", " + n + ")", real.soft(x, n), model.soft(x, n)); break;
            case 22: n = around(99); answers("harden(" + n + ")", real.harden(n), model.harden(n)); break;
            case 23: answers("halves()", real.halves(), model.halves()); break;
            case 24: n = around(2); answers("merit(" + n + ")", real.merit(n), model.merit(n)); break;
            default: n = around(32); answers("weights(" + n + ")", real.weights(n), model.weights(n)); break;
        }
    }

    private void stepText(int which) {
        int x = around(127);
        switch (which) {
            case 26: answers("perpendicular()", real.perpendicular(), model.perpendicular()); break;
            case 27: x = around(lastPlace()); answers("asked(" + x + ")", real.asked(x), model.asked(x)); break;
            case 28: answers("type(" + x + ")", real.type(x), model.type(x)); break;
            case 29:
                answers("clear()", real.clear(), model.clear());
                pending = someText();
                break;
            case 30: answers("does()", real.does(), model.does()); break;
            case 31: answers("back()", real.back(), model.back()); break;
            case 32: x = around(4); answers("told(" + x + ")", real.told(x), model.told(x)); break;
            default: answers("digest()", real.digest(), model.digest()); break;
        }
    }

    private String someText() {
        StringBuilder text = new StringBuilder();
        for (int left = upTo(6); left >= 0; left--) {
            text.append(someOrder());
        }
        for (int left = random.nextInt(3) - 1; left > 0; left--) {
            text.setCharAt(random.nextInt(text.length()), BYTES.charAt(random.nextInt(BYTES.length())));
        }
        if (random.nextInt(8) == 0) {
            text.setLength(random.nextInt(text.length()));
        }
        return text.toString();
    }

    private String someOrder() {
        int m = upTo(5);
        switch (random.nextInt(8)) {
            case 0: return gap() + "c" + gap() + upTo(m) + " " + m + gap() + ";";
            case 1: return "m" + gap() + Integer.toHexString(someBits(1 + upTo(31))) + gap() + ";";
            case 2: return "w" + gap() + Integer.toHexString(someBits(1 + upTo(31))) + ";" + gap();
            case 3: return "f" + gap() + "0".repeat(upTo(1)) + upTo(12) + ";";
            case 4: return gap() + "v" + gap() + ";";
            case 5: return "s" + gap() + upTo(9) + " " + (upTo(198) - 99) + ";";
            case 6: return "s" + upTo(7) + "-" + upTo(9) + gap() + ";";
            default: return "h" + gap() + ";" + gap();
        }
    }

    private String gap() {
        return " ".repeat(Math.max(0, random.nextInt(5) - 2));
    }
}
