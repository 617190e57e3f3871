/** Counts and prints the calls whose answer is not the one that is due. */
final class Check {
    private final String about;
    private int calls = 0;
    private int wrong = 0;

    Check(String about) {
        this.about = about;
    }

    void due(String call, long got, long want) {
        calls++;
        if (got != want) {
            wrong++;
            System.out.println(about + ": " + call + " answered " + got + ", due is " + want);
        }
    }

    void holds(String what, boolean so) {
        calls++;
        if (!so) {
            wrong++;
            System.out.println(about + ": not so: " + what);
        }
    }

    int wrongSoFar() {
        return wrong;
    }

    /** A test's last call: exit code 1 if one answer was wrong. */
    void end() {
        System.out.println(about + ": " + calls + " answers, " + wrong + " wrong");
        if (wrong != 0) {
            System.exit(1);
        }
    }

    static void type(GrindMill x, String text) {
        x.clear();
        for (int i = 0; i < text.length(); i++) {
            x.type(text.charAt(i));
        }
    }

    /** As digest mixes. */
    static long mixed(long... values) {
        long h = 1231;
        for (long v : values) {
            h = 31 * h + v;
        }
        return h;
    }

    static int read(GrindMill x, String text) {
        type(x, text);
        return x.read();
    }
}
