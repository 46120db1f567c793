/** Counts answers that are not as due and prints each of them. */
final class Check {
    private final String name;
    private int wrong = 0;
    private int made = 0;

    Check(String name) {
        this.name = name;
    }

    void due(String call, long got, long want) {
        made++;
        if (got != want) {
            wrong++;
            System.out.println(name + ": " + call + " answered " + got + ", due is " + want);
        }
    }

    void holds(String what, boolean isSo) {
        due(what, isSo ? 1 : 0, 1);
    }

    boolean isWrong() {
        return wrong > 0;
    }

    void end() {
        System.out.println(name + ": " + made + " checks, " + wrong + " wrong");
        if (wrong > 0) {
            System.exit(1);
        }
    }

    static void write(ClockOnce x, String text) {
        x.wipe();
        for (int i = 0; i < text.length(); i++) {
            x.write(text.charAt(i));
        }
    }

    static ClockOnce townOf(String text) {
        ClockOnce x = new ClockOnce();
        write(x, text);
        if (x.town() < 0) {
            throw new IllegalStateException("no town: " + text);
        }
        return x;
    }
}
