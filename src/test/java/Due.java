/** Counts the answers of a test that are not the ones that are due. */
final class Due {
    private static int wrong = 0;

    private Due() {
    }

    static void is(String what, long got, long want) {
        if (got != want) {
            wrong++;
            System.out.println(what + " answered " + got + ", due is " + want);
        }
    }

    static void holds(String what, boolean is) {
        if (!is) {
            wrong++;
            System.out.println("does not hold: " + what);
        }
    }

    static int wrong() {
        return wrong;
    }

    static void end(String test) {
        if (wrong != 0) {
            System.out.println(test + ": " + wrong + " not as due");
            System.exit(1);
        }
        System.out.println(test + ": all as due");
    }
}
