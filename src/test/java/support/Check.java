/** Counts and prints the answers that are not as due. */
final class Check {
    private int wrong = 0;
    private int asked = 0;
    private String part = "";

    void part(String name) {
        part = name;
    }

    void due(String call, long got, long want) {
        asked++;
        if (got != want) {
            wrong++;
            System.out.println(part + ": " + call + " answered " + got + ", due is " + want);
        }
    }

    void holds(String what, boolean held) {
        asked++;
        if (!held) {
            wrong++;
            System.out.println(part + ": " + what + " does not hold");
        }
    }

    int wrong() {
        return wrong;
    }

    void end() {
        System.out.println(asked + " answers asked, " + wrong + " not as due");
        if (wrong != 0) {
            System.exit(1);
        }
    }
}
