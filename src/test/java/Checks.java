/** What the tests share: they print each wrong answer and end with exit code 1 if there was one. */
final class Checks {
    private int wrong = 0;
    private int asked = 0;
    private String part = "";

    void part(String name) {
        part = name;
    }

    void due(String call, long got, long want) {
        asked++;
        if (got != want) {
            wrong++;
            System.out.println(part + ": " + call + " answered " + got + ", due is " + want);
        }
    }

    void holds(String what, boolean so) {
        asked++;
        if (!so) {
            wrong++;
            System.out.println(part + ": not so: " + what);
        }
    }

    int wrong() {
        return wrong;
    }

    void end() {
        System.out.println(wrong == 0 ? asked + " checks are as due" : wrong + " of " + asked + " checks are wrong");
        if (wrong != 0) {
            System.exit(1);
        }
    }
}
