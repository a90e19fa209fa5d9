import java.util.LinkedHashMap;
import java.util.List;
import java.util.Map;
import java.util.function.Supplier;
import java.util.function.ToLongFunction;

/**
 * Looks at all that can be seen of an object, without a call and behind it: how often refused, the CODE, THE WORD,
 * each SOFT PLACE, THE TEXT, and all of each STATE. Looking changes some of it, so each look is at an object made anew.
 */
final class Looks {
    private static final int MOST_STATES = 8;
    private final Checks checks;

    Looks(Checks checks) {
        this.checks = checks;
    }

    /** An object of that code with one state behind it, no word and no text. */
    static PlusCodes bare(int r, int m) {
        PlusCodes x = new PlusCodes();
        x.code(r, m);
        return x;
    }

    /** An object of that code with a word, numbers at all places, a text that can be done, and four states. */
    static PlusCodes filled(int r, int m) {
        PlusCodes x = bare(r, m);
        fill(x);
        write(x, "f 0;s 0 -3;v;");
        return x;
    }

    /** An object of that code whose states and text are full: older states are lost, each refusal was there once. */
    static PlusCodes crowded(int r, int m) {
        PlusCodes x = new PlusCodes();
        x.back();
        x.code(r, m);
        fill(x);
        for (int i = 0; i < x.of(4); i++) {
            x.soft(i, (i + 3) * 37 % 199 - 99);
        }
        for (int w = 0; w < MOST_STATES; w++) {
            x.word(w % 3 == 0 ? 0 : 1);
        }
        x.hurt(r + m, x.of(4) / 2 + 1);
        write(x, "s 0 -3;f 0;" + " ".repeat(104) + "f0;h;");
        x.type(' ');
        x.at(-1);
        return x;
    }

    private static void fill(PlusCodes x) {
        x.word(0x6b43a9b5 & -1 >>> 32 - x.of(4));
        x.harden(7);
        x.flip(0);
    }

    /** A new code each way: with little behind it, with some, with as much as can be. */
    static List<Supplier<PlusCodes>> homes(int r, int m) {
        return List.of(() -> bare(r, m), () -> filled(r, m), () -> crowded(r, m));
    }

    static void write(PlusCodes x, String text) {
        for (int k = 0; k < text.length(); k++) {
            x.type(text.charAt(k));
        }
    }

    /** A call that is refused: its answer, once more under that kind, and nothing else is otherwise. */
    void refused(String call, Supplier<PlusCodes> made, ToLongFunction<PlusCodes> asked, long answer, int kind) {
        checks.due(call, asked.applyAsLong(made.get()), answer);
        Map<String, Long> due = seen(made, x -> 0);
        due.merge("told(" + kind + ")", 1L, Long::sum);
        same(call + " is refused, then", seen(made, asked), due);
    }

    /** A call that is taken, but asks alone: nothing is otherwise behind it. */
    void asks(String call, Supplier<PlusCodes> made, ToLongFunction<PlusCodes> asked, long answer) {
        checks.due(call, asked.applyAsLong(made.get()), answer);
        same(call + " asks alone, then", seen(made, asked), seen(made, x -> 0));
    }

    /** A call told S that is taken: none is refused, THE TEXT stays, one STATE more is there, back() brings all back. */
    void leaves(String call, Supplier<PlusCodes> made, ToLongFunction<PlusCodes> asked, long answer) {
        PlusCodes x = made.get();
        long[] told = {x.told(0), x.told(1), x.told(2), x.told(3), Math.min(MOST_STATES, x.told(4) + 1)};
        int had = x.told(4);
        checks.due(call, asked.applyAsLong(x), answer);
        for (int what = 0; what < told.length; what++) {
            checks.due(call + " leaves one, then told(" + what + ")", x.told(what), told[what]);
        }
        Map<String, Long> due = seen(made, y -> 0);
        if (had == MOST_STATES) {
            loseOldest(due);
        }
        same(call + ", back(), then", seen(made, y -> asked.applyAsLong(y) + y.back()), due);
    }

    private static void loseOldest(Map<String, Long> due) {
        due.put("told(4)", MOST_STATES - 1L);
        due.keySet().removeIf(k -> k.startsWith("state " + MOST_STATES + " "));
        for (int n = 1; n < MOST_STATES; n++) {
            due.put("state " + n + " back()", MOST_STATES - 1L - n);
        }
        due.put("state " + MOST_STATES + " back()", (long) PlusCodes.NO);
        due.remove("state " + (MOST_STATES + 1) + " back()");
    }

    private void same(String when, Map<String, Long> got, Map<String, Long> due) {
        checks.holds(when + " as many things are seen", got.keySet().equals(due.keySet()));
        for (String k : due.keySet()) {
            checks.due(when + " " + k, got.getOrDefault(k, Long.MIN_VALUE), due.get(k));
        }
    }

    /** All that is seen of an object behind a call. */
    static Map<String, Long> seen(Supplier<PlusCodes> made, ToLongFunction<PlusCodes> call) {
        Map<String, Long> all = new LinkedHashMap<>();
        PlusCodes x = behind(made, call);
        for (int what = 0; what < 5; what++) {
            all.put("told(" + what + ")", (long) x.told(what));
        }
        lookAtCode("", x, all);
        lookAtText(behind(made, call), all);
        lookAtStates(behind(made, call), all);
        x = behind(made, call);
        for (int i = 0; i < x.of(4); i++) {
            all.put("soft(" + i + ", 0)", (long) x.soft(i, 0));
        }
        return all;
    }

    private static PlusCodes behind(Supplier<PlusCodes> made, ToLongFunction<PlusCodes> call) {
        PlusCodes x = made.get();
        call.applyAsLong(x);
        return x;
    }

    private static void lookAtCode(String name, PlusCodes x, Map<String, Long> all) {
        for (int what = 0; what < 6; what++) {
            all.put(name + "of(" + what + ")", (long) x.of(what));
        }
        all.put(name + "last term", (long) x.term(x.of(2) - 1));
        all.put(name + "now()", (long) x.now());
    }

    /** The bytes are not told by any call: what they do is. */
    private static void lookAtText(PlusCodes x, Map<String, Long> all) {
        all.put("text does()", (long) x.does());
        lookAtCode("text ", x, all);
        for (int i = 0; i < x.of(4); i++) {
            all.put("text soft(" + i + ", 0)", (long) x.soft(i, 0));
        }
        all.put("text clear()", (long) x.clear());
    }

    /** Behind a back() there is room for one state more, so each look at a soft place can be taken back. */
    private static void lookAtStates(PlusCodes x, Map<String, Long> all) {
        for (int n = 1; n <= MOST_STATES + 1; n++) {
            int left = x.back();
            all.put("state " + n + " back()", (long) left);
            if (left < 0) {
                return;
            }
            lookAtCode("state " + n + " ", x, all);
            for (int i = 0; i < x.of(4); i++) {
                all.put("state " + n + " soft(" + i + ", 0)", (long) x.soft(i, 0));
                x.back();
            }
        }
    }
}
