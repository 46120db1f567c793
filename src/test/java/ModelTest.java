import java.util.ArrayList;
import java.util.List;
import java.util.Random;

/** Random runs of calls on the class and on the model, which must answer alike. */
final class ModelTest {
    private static final int RUNS = 500;
    private static final int CALLS = 500;
    private static final int TEXTS = 1500;

    private final Check check = new Check("ModelTest");
    private final Random random = new Random(20261118);

    public static void main(String[] args) {
        ModelTest test = new ModelTest();
        test.compareFaults();
        test.compareRuns();
        test.check.end();
    }

    private void compareFaults() {
        for (int i = 0; i < TEXTS && !check.isWrong(); i++) {
            StringBuilder text = new StringBuilder(randomTown());
            int changes = random.nextInt(3);
            for (int c = 0; c < changes && text.length() > 0; c++) {
                int at = random.nextInt(text.length());
                switch (random.nextInt(4)) {
                    case 0 -> text.setCharAt(at, "CTAL0123456789:/x".charAt(random.nextInt(17)));
                    case 1 -> text.deleteCharAt(at);
                    case 2 -> text.setLength(at);
                    default -> text.append("CTAL012"
                        .charAt(random.nextInt(7)));
                }
            }
            text.setLength(Math.min(48, text.length()));
            ClockOnce x = new ClockOnce();
            Check.write(x, text.toString());
            check.due(text + " fault()", x.fault(), Model.faultOf(text.toString()));
        }
    }

    /** A text that is a town as often as not: parts as they come, of which those that can't be are left out. */
    private String randomTown() {
        String text = "C";
        int parts = random.nextInt(14);
        for (int i = 0; i < parts; i++) {
            String part = switch (random.nextInt(3)) {
                case 0 -> randomThing();
                case 1 -> "A" + random.nextInt(4) + random.nextInt(4);
                default -> "L" + random.nextInt(4) + random.nextInt(4);
            };
            if (Model.parse(text + part) != null || random.nextInt(60) == 0) {
                text += part;
            }
        }
        return text;
    }

    private String randomThing() {
        int a = 1 + random.nextInt(random.nextBoolean() ? 3 : 8);
        int b = a + 1 + random.nextInt(9 - a);
        int x = random.nextInt(5) == 0 ? 0 : random.nextInt(10);
        return "T" + a + b + x + (1 + random.nextInt(9)) + random.nextInt(2);
    }

    private void compareRuns() {
        for (int i = 0; i < RUNS && !check.isWrong(); i++) {
            compareRun();
        }
    }

    private void compareRun() {
        ClockOnce x = new ClockOnce();
        Model m = new Model();
        List<String> calls = new ArrayList<>();
        int left = CALLS;
        left -= makeTown(x, m, randomTown(), calls);
        boolean isBusy = random.nextBoolean();
        while (left > 0 && !check.isWrong()) {
            if (random.nextInt(120) == 0 && left > 60) {
                left -= makeTown(x, m, randomTown(), calls);
            } else {
                compareCall(x, m, isBusy ? random.nextInt(22) : 4 + random.nextInt(18), calls);
                left--;
            }
        }
        if (check.isWrong()) {
            System.out.println(String.join("; ", calls));
        }
    }

    private int makeTown(ClockOnce x, Model m, String text, List<String> calls) {
        same(calls, "wipe()", x.wipe(), m.wipe());
        for (char c : text.toCharArray()) {
            same(calls, "write(" + (int) c + ")", x.write(c), m.write(c));
        }
        same(calls, "town()", x.town(), m.town());
        return text.length() + 2;
    }

    private void same(List<String> calls, String call, long got, long want) {
        calls.add(call + " = " + got);
        check.due(call, got, want);
    }

    private int near(int most) {
        return random.nextInt(40) == 0 ? random.nextInt() : random.nextInt(most + 2) - (random.nextInt(12) == 0 ? 1 : 0);
    }

    private void compareCall(ClockOnce x, Model m, int kind, List<String> calls) {
        int one = near(3);
        int other = near(3);
        boolean upper = random.nextBoolean();
        String of = "(" + one + ", " + other + ")";
        switch (kind) {
            case 0, 1, 2 -> same(calls, "day()", x.day(), m.day());
            case 3 -> same(calls, "sell(" + one + ")", x.sell(one), m.sell(one));
            case 4 -> same(calls, "ask" + of, x.ask(one, other), m.ask(one, other));
            case 5 -> act(x, m, one, calls);
            case 6 -> {
                int what = near(6);
                same(calls, "thing(" + one + ", " + what + ")", x.thing(one, what), m.thing(one, what));
            }
            case 7 -> same(calls, "asker" + of, x.asker(one, other), m.asker(one, other));
            case 8 -> same(calls, "worlds(" + one + ")", x.worlds(one), m.worlds(one));
            case 9 -> same(calls, "holds(" + one + ")", x.holds(one), m.holds(one));
            case 10 -> same(calls, "likely" + of + upper, x.likely(one, other, upper), m.likely(one, other, upper));
            case 11 -> same(calls, "wise" + of, x.wise(one, other), m.wise(one, other));
            case 12 -> {
                int set = near(15);
                same(calls, "worth(" + set + ", " + upper + ")", x.worth(set, upper), m.worth(set, upper));
            }
            case 13 -> same(calls, "toAsk()", x.toAsk(), m.toAsk());
            case 14 -> same(calls, "by(" + one + ")", x.by(one), m.by(one));
            case 15 -> same(calls, "fewest()", x.fewest(), m.fewest());
            case 16 -> same(calls, "share(" + one + ", " + upper + ")", x.share(one, upper), m.share(one, upper));
            case 17 -> she(x, m, one, calls);
            case 18 -> same(calls, "which()", x.which(), m.which());
            case 19 -> judge(x, m, calls);
            case 20 -> years(x, m, calls);
            default -> {
                int what = near(10);
                same(calls, "count(" + what + ")", x.count(what), m.count(what));
            }
        }
    }

    private void act(ClockOnce x, Model m, int one, List<String> calls) {
        switch (random.nextInt(8)) {
            case 0 -> same(calls, "keep(" + one + ")", x.keep(one), m.keep(one));
            case 1 -> same(calls, "again(" + one + ")", x.again(one), m.again(one));
            case 2 -> same(calls, "day()", x.day(), m.day());
            case 3 -> same(calls, "sell(" + one + ")", x.sell(one), m.sell(one));
            case 4 -> {
                if (m.count(0) < 48 || random.nextInt(4) == 0) {
                    same(calls, "write(" + one + ")", x.write(one), m.write(one));
                }
            }
            default -> same(calls, "undo()", x.undo(), m.undo());
        }
    }

    private void she(ClockOnce x, Model m, int one, List<String> calls) {
        if (random.nextInt(3) == 0) {
            same(calls, "unsee()", x.unsee(), m.unsee());
        } else {
            int day = near(9);
            same(calls, "see(" + one + ", " + day + ")", x.see(one, day), m.see(one, day));
        }
    }

    private void judge(ClockOnce x, Model m, List<String> calls) {
        int n = near(8);
        int row = 0;
        for (int i = 0; i < n && i < 8; i++) {
            row = row * 10 + (random.nextInt(30) == 0 ? 5 + random.nextInt(5) : random.nextInt(3) == 0 ? random.nextInt(4) : 4);
        }
        row = random.nextInt(30) == 0 ? random.nextInt() : row;
        n = random.nextInt(30) == 0 ? n - 1 : n;
        same(calls, "judge(" + n + ", " + row + ")", x.judge(n, row), m.judge(n, row));
    }

    private void years(ClockOnce x, Model m, List<String> calls) {
        if (random.nextInt(3) == 0) {
            long v = random.nextLong();
            same(calls, "seed(" + v + ")", x.seed(v), m.seed(v));
        } else {
            int times = near(30);
            same(calls, "year(" + times + ")", x.year(times), m.year(times));
        }
    }
}
