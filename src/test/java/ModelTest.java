import java.util.Map;
import java.util.Random;
import java.util.TreeMap;
import java.util.function.IntSupplier;

/** Random runs of calls, with seeds that are written here: RelationStream answers as Model does. */
public final class ModelTest {
    private static final int RUNS = 10_000;
    // What an object answers behind these is free.
    private static final int MOST_CALLS = 512;
    private static final int THROWS_ARGUMENT = -1001;
    private static final int THROWS_STATE = -1002;
    private static final int THROWS_INDEX = -1003;

    private final Random random;
    private final int style;
    private final RelationStream x = new RelationStream();
    private final Model m = new Model();
    private final StringBuilder log = new StringBuilder();
    private boolean good = true;
    private int calls = 0;

    private static final Map<String, Integer> SEEN = new TreeMap<>();

    private ModelTest(long seed) {
        random = new Random(seed);
        style = random.nextInt(6);
    }

    private static int answer(IntSupplier call) {
        try {
            return call.getAsInt();
        } catch (IllegalArgumentException e) {
            return THROWS_ARGUMENT;
        } catch (IllegalStateException e) {
            return THROWS_STATE;
        } catch (IndexOutOfBoundsException e) {
            return THROWS_INDEX;
        }
    }

    private int both(String call, IntSupplier mine, IntSupplier models) {
        int got = answer(mine);
        int want = answer(models);
        calls++;
        log.append(call).append(" -> ").append(got).append('\n');
        if (got != want && calls <= MOST_CALLS) {
            good = false;
            log.append("    due is ").append(want).append('\n');
        }
        return want;
    }

    private boolean goesOn() {
        return good && calls < MOST_CALLS;
    }

    private int below(int bound) {
        return random.nextInt(bound);
    }

    /** Mostly a number that there is, and mostly a late one. */
    private int someOf(int size) {
        if (below(60) == 0) {
            return below(46) - 3;
        }
        if (size == 0) {
            return 0;
        }
        return below(3) > 0 ? size - 1 - below(Math.min(size, 6)) : below(size);
    }

    private int someTerm() {
        int size = m.terms.size();
        return below(60) == 0 || size == 0 ? below(46) - 3 : below(size);
    }

    private int someGoal() {
        return someOf(m.goals.size());
    }

    private void atom(int a) {
        both("atom(" + a + ")", () -> x.atom(a), () -> m.atom(a));
    }

    private void place(int k) {
        both("place(" + k + ")", () -> x.place(k), () -> m.place(k));
    }

    private void pair(int a, int b) {
        both("pair(" + a + ", " + b + ")", () -> x.pair(a, b), () -> m.pair(a, b));
    }

    private void relate(boolean same, int a, int b) {
        both("relate(" + same + ", " + a + ", " + b + ")", () -> x.relate(same, a, b), () -> m.relate(same, a, b));
    }

    private void combine(boolean both, int a, int b) {
        both("combine(" + both + ", " + a + ", " + b + ")",
                () -> x.combine(both, a, b), () -> m.combine(both, a, b));
    }

    private void call(int r, int a, int b, int c) {
        both("call(" + r + ", " + a + ", " + b + ", " + c + ")", () -> x.call(r, a, b, c), () -> m.call(r, a, b, c));
    }

    private void define(int r, int g) {
        both("define(" + r + ", " + g + ")", () -> {
            x.define(r, g);
            return 0;
        }, () -> {
            m.define(r, g);
            return 0;
        });
    }

    private void ask(int g) {
        both("ask(" + g + ")", () -> {
            x.ask(g);
            return 0;
        }, () -> {
            m.ask(g);
            return 0;
        });
    }

    private void run(int steps, boolean one) {
        int before = m.status;
        both("run(" + steps + ", " + one + ")", () -> x.run(steps, one), () -> m.run(steps, one));
        if (m.status != before) {
            SEEN.merge(m.status == 3 ? "full: " + m.whyFull : "ended", 1, Integer::sum);
        }
        look();
    }

    private void look() {
        both("status()", x::status, m::status);
        for (int what = -1; what <= 8; what++) {
            int w = what;
            both("count(" + w + ")", () -> x.count(w), () -> m.count(w));
        }
        if (m.answers.size() > 0 && below(3) == 0) {
            lookAtAnswer(below(m.answers.size()));
        }
        if (below(20) == 0) {
            int a = below(24) - 2;
            int p = below(10) - 1;
            int i = below(44) - 2;
            both("text(" + a + ", " + p + ", " + i + ")", () -> x.text(a, p, i), () -> m.text(a, p, i));
            both("conditions(" + a + ")", () -> x.conditions(a), () -> m.conditions(a));
        }
    }

    private void lookAtAnswer(int a) {
        SEEN.merge("conditions " + Math.min(m.conditions(a), 4), 1, Integer::sum);
        both("conditions(" + a + ")", () -> x.conditions(a), () -> m.conditions(a));
        for (int part = 0; part < 7; part++) {
            int p = part;
            int length = 0;
            while (length < 42 && m.text(a, p, length) >= 0) {
                length++;
            }
            if (length == 40) {
                SEEN.merge("longest text", 1, Integer::sum);
            }
            for (int i = 0; i <= length; i++) {
                int j = i;
                both("text(" + a + ", " + p + ", " + j + ")", () -> x.text(a, p, j), () -> m.text(a, p, j));
            }
        }
    }

    private void makeTerms() {
        for (int k = 0; k < 6; k++) {
            if (style < 4 || below(3) > 0) {
                place(k);
            }
        }
        int atoms = 1 + below(4);
        for (int i = 0; i < atoms; i++) {
            atom(below(3));
        }
        int pairs = below(style == 5 ? 30 : 12);
        for (int i = 0; i < pairs; i++) {
            if (style == 5) {
                pair(someOf(m.terms.size()), someOf(m.terms.size()));
            } else {
                pair(someTerm(), someTerm());
            }
        }
    }

    private void makeGoal() {
        int kind = below(10);
        int sames = style == 1 ? 2 : 4;
        if (kind < sames) {
            relate(style == 1 ? below(4) == 0 : below(4) > 0, someTerm(), someTerm());
        } else if (kind < 6) {
            combine(style == 2 ? below(4) > 0 : below(2) == 0, someGoal(), someGoal());
        } else if (kind < 8) {
            combine(style != 3 || below(3) == 0, someGoal(), someGoal());
        } else {
            call(style == 0 ? below(6) - 1 : below(2), someTerm(), someTerm(), someTerm());
        }
    }

    /** Append, of which the third list or none is given: the classic that goes through long lists. */
    private void makeClassic() {
        for (int k = 0; k < 6; k++) {
            place(k);
        }
        atom(0);
        pair(3, 4);
        pair(3, 5);
        relate(true, 0, 6);
        relate(true, 1, 2);
        combine(true, 0, 1);
        relate(true, 0, 7);
        relate(true, 2, 8);
        call(0, 4, 1, 5);
        relate(false, 3, below(7));
        combine(true, 3, 4);
        combine(true, below(2) == 0 ? 7 : 6, below(2) == 0 ? 5 : 6);
        combine(true, 8, below(2) == 0 ? 5 : 6);
        combine(below(5) == 0, 2, below(2) == 0 ? 8 : 9);
        define(0, 10);
    }

    private boolean play() {
        if (style == 4) {
            makeClassic();
        }
        makeTerms();
        int goals = 4 + below(36);
        relate(true, someTerm(), someTerm());
        for (int i = 0; i < goals; i++) {
            makeGoal();
        }
        int rounds = 3 + below(12);
        for (int i = 0; i < rounds && goesOn(); i++) {
            playRound();
        }
        SEEN.merge("broken", m.broken, Integer::sum);
        SEEN.merge("decided", m.decided, Integer::sum);
        SEEN.merge("most looks in one step", m.mostLooks, Integer::max);
        return good;
    }

    private void playRound() {
        for (int r = 0; r < 4; r++) {
            if (below(3) == 0) {
                define(r, below(8) == 0 ? -1 : someGoal());
            }
        }
        if (below(12) == 0) {
            define(below(7) - 1, below(46) - 3);
        }
        if (below(10) > 0) {
            ask(someGoal());
        }
        look();
        int runs = 1 + below(8);
        for (int i = 0; i < runs && goesOn(); i++) {
            int kind = below(12);
            run(kind == 0 ? below(210) - 4 : kind < 5 ? below(8) : 200, below(2) == 0);
            if (below(6) == 0) {
                makeGoal();
            }
            if (below(6) == 0) {
                define(below(4), someGoal());
            }
        }
    }

    public static void main(String[] args) {
        int runs = args.length > 0 ? Integer.parseInt(args[0]) : RUNS;
        long from = args.length > 1 ? Long.parseLong(args[1]) : 1;
        int bad = 0;
        for (int i = 0; i < runs && bad < 3; i++) {
            ModelTest test = new ModelTest(from + i);
            if (!test.play()) {
                bad++;
                System.out.println("seed " + (from + i) + ":\n" + test.log);
            }
        }
        System.out.println(SEEN);
        for (String due : new String[] {"ended", "full: looks", "full: frames", "full: bindings", "full: conditions",
            "full: tree", "full: answers", "conditions 4", "longest text", "broken", "decided"}) {
            if (SEEN.getOrDefault(due, 0) == 0) {
                bad++;
                System.out.println("no run came to: " + due);
            }
        }
        System.exit(bad == 0 ? 0 : 1);
    }
}
