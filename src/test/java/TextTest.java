/** All short texts over the bytes that matter, and some starts of orders, done by PlusCodes and by the slow Model. */
public final class TextTest {
    private static final Checks CHECKS = new Checks();
    private static final String BYTES = "cmsfv; -019a";
    private static final String[] STARTS = {"c", "m", "w", "f", "v", "s", "h", "s 1", "s7-", "c 0 2;f", "c 1 5;m"};

    public static void main(String[] args) {
        CHECKS.part("all short texts");
        for (int length = 0; length <= 4; length++) {
            all("", length);
        }
        for (String start : STARTS) {
            for (int length = 1; length <= 4; length++) {
                all(start, length);
            }
        }
        CHECKS.end();
    }

    private static void all(String start, int more) {
        if (CHECKS.wrong() > 20) {
            return;
        }
        if (more == 0) {
            compare(start);
            return;
        }
        for (int k = 0; k < BYTES.length(); k++) {
            all(start + BYTES.charAt(k), more - 1);
        }
    }

    private static void compare(String text) {
        PlusCodes real = new PlusCodes();
        Model model = new Model();
        for (int k = 0; k < text.length(); k++) {
            real.type(text.charAt(k));
            model.type(text.charAt(k));
        }
        CHECKS.due("does() by '" + text + "'", real.does(), model.does());
        CHECKS.due("digest() after '" + text + "'", real.digest(), model.digest());
    }
}
