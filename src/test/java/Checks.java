/** Counts and prints what is not as due; ends the run with exit code 1, if there was any. */
final class Checks {
    private final String name;
    private int made;
    private int wrong;

    Checks(String name) {
        this.name = name;
    }

    void due(String what, long want, long got) {
        made++;
        if (want != got) {
            wrong++;
            System.out.println(name + ": " + what + " answered " + got + ", due is " + want);
        }
    }

    void yes(String what, boolean holds) {
        made++;
        if (!holds) {
            wrong++;
            System.out.println(name + ": not so: " + what);
        }
    }

    boolean isClean() {
        return wrong == 0;
    }

    void end() {
        System.out.println(name + ": " + made + " checks, " + wrong + " wrong");
        if (wrong != 0 || made == 0) {
            System.exit(1);
        }
    }
}
