import java.util.ArrayList;
import java.util.HashMap;
import java.util.List;
import java.util.Map;

/**
 * The document's machine once more, written as its words go, with recursion and copies of everything:
 * ModelTest lets it answer the same calls as RelationStream.
 */
final class Model {
    interface Term {
    }

    record Atom(int number) implements Term {
    }

    record Place(int number) implements Term {
    }

    record Variable(int frame, int number) implements Term {
    }

    /** Halves are shared, so that equality must be of the object and not of what is in it. */
    static final class Pair implements Term {
        final Term first;
        final Term second;

        Pair(Term first, Term second) {
            this.first = first;
            this.second = second;
        }
    }

    enum Kind { SAME, DIFFER, BOTH, EITHER, CALL }

    record Goal(Kind kind, int relation, int one, int two, int three) {
    }

    record Condition(Term one, Term other) {
    }

    record State(Map<Variable, Term> bindings, List<Condition> conditions) {
    }

    interface Tree {
    }

    record Task(int goal, int frame, State state) implements Tree {
    }

    record Sum(Tree first, Tree second) implements Tree {
    }

    record Product(Tree tree, int goal, int frame) implements Tree {
    }

    record Result(State answer, Tree left) {
    }

    record Told(List<List<Integer>> parts, int conditions) {
    }

    static final class Full extends RuntimeException {
        private static final long serialVersionUID = 1L;

        Full(String why) {
            super(why);
        }
    }

    final List<Term> terms = new ArrayList<>();
    final List<Goal> goals = new ArrayList<>();
    final int[] relations = {-1, -1, -1, -1};

    int status = 0;
    Tree tree = null;
    List<Told> answers = new ArrayList<>();
    int frames = 0;
    int bindings = 0;
    int conditions = 0;
    int steps = 0;
    int looks = 0;
    int mostLooks = 0;
    int broken = 0;
    int decided = 0;
    String whyFull = null;

    private static void argument(boolean good) {
        if (!good) {
            throw new IllegalArgumentException();
        }
    }

    private static void state(boolean good) {
        if (!good) {
            throw new IllegalStateException();
        }
    }

    private static void index(boolean good) {
        if (!good) {
            throw new IndexOutOfBoundsException();
        }
    }

    private boolean term(int t) {
        return t >= 0 && t < terms.size();
    }

    private boolean goal(int g) {
        return g >= 0 && g < goals.size();
    }

    private int newTerm(Term t) {
        state(terms.size() < 40);
        terms.add(t);
        return terms.size() - 1;
    }

    private int newGoal(Goal g) {
        state(goals.size() < 40);
        goals.add(g);
        return goals.size() - 1;
    }

    int atom(int a) {
        argument(a >= 0 && a <= 9);
        return newTerm(new Atom(a));
    }

    int place(int k) {
        argument(k >= 0 && k <= 5);
        return newTerm(new Place(k));
    }

    int pair(int first, int second) {
        argument(term(first) && term(second));
        return newTerm(new Pair(terms.get(first), terms.get(second)));
    }

    int relate(boolean same, int one, int other) {
        argument(term(one) && term(other));
        return newGoal(new Goal(same ? Kind.SAME : Kind.DIFFER, -1, one, other, -1));
    }

    int combine(boolean both, int one, int other) {
        argument(goal(one) && goal(other));
        return newGoal(new Goal(both ? Kind.BOTH : Kind.EITHER, -1, one, other, -1));
    }

    int call(int relation, int one, int two, int three) {
        argument(relation >= 0 && relation <= 3 && term(one) && term(two) && term(three));
        return newGoal(new Goal(Kind.CALL, relation, one, two, three));
    }

    void define(int relation, int goal) {
        argument(relation >= 0 && relation <= 3 && (goal == -1 || goal(goal)));
        relations[relation] = goal;
    }

    void ask(int goal) {
        argument(goal(goal));
        status = 1;
        tree = new Task(goal, 0, new State(Map.of(), List.of()));
        answers = new ArrayList<>();
        frames = 1;
        bindings = 0;
        conditions = 0;
        steps = 0;
        whyFull = null;
    }

    int run(int most, boolean one) {
        argument(most >= 0 && most <= 200);
        state(status != 0);
        int done = 0;
        while (done < most && status == 1) {
            int before = answers.size();
            if (!counts()) {
                break;
            }
            done++;
            if (one && answers.size() > before) {
                break;
            }
        }
        return done;
    }

    private boolean counts() {
        int framesThen = frames;
        int bindingsThen = bindings;
        int conditionsThen = conditions;
        looks = 0;
        try {
            Result result = step(tree);
            if (size(result.left, Tree.class) > 60) {
                throw new Full("tree");
            }
            if (result.answer != null && answers.size() == 20) {
                throw new Full("answers");
            }
            if (result.answer != null) {
                answers.add(tell(result.answer));
            }
            tree = result.left;
        } catch (Full full) {
            frames = framesThen;
            bindings = bindingsThen;
            conditions = conditionsThen;
            whyFull = full.getMessage();
            status = 3;
            return false;
        }
        mostLooks = Math.max(mostLooks, looks);
        steps++;
        status = tree == null ? 2 : 1;
        return true;
    }

    int status() {
        return status;
    }

    int count(int what) {
        index(what >= 0 && what <= 7);
        if (status == 0) {
            return 0;
        }
        return switch (what) {
            case 0 -> answers.size();
            case 1 -> size(tree, Task.class);
            case 2 -> size(tree, Sum.class);
            case 3 -> size(tree, Product.class);
            case 4 -> frames;
            case 5 -> bindings;
            case 6 -> conditions;
            default -> steps;
        };
    }

    int text(int answer, int part, int i) {
        index(answer >= 0 && answer < answers.size() && part >= 0 && part <= 6);
        List<List<Integer>> parts = answers.get(answer).parts;
        if (part >= parts.size() || i < 0 || i >= parts.get(part).size()) {
            return -1;
        }
        return parts.get(part).get(i);
    }

    int conditions(int answer) {
        index(answer >= 0 && answer < answers.size());
        return answers.get(answer).conditions;
    }

    private static int size(Tree t, Class<?> kind) {
        int own = kind.isInstance(t) ? 1 : 0;
        if (t instanceof Sum s) {
            return own + size(s.first, kind) + size(s.second, kind);
        }
        if (t instanceof Product p) {
            return own + size(p.tree, kind);
        }
        return own;
    }

    private Result step(Tree t) {
        if (t instanceof Sum s) {
            Result r = step(s.first);
            return new Result(r.answer, r.left == null ? s.second : new Sum(s.second, r.left));
        }
        if (t instanceof Product p) {
            Result r = step(p.tree);
            Tree rest = r.left == null ? null : new Product(r.left, p.goal, p.frame);
            if (r.answer == null) {
                return new Result(null, rest);
            }
            Tree task = new Task(p.goal, p.frame, r.answer);
            return new Result(null, rest == null ? task : new Sum(task, rest));
        }
        return stepTask((Task) t);
    }

    private Result stepTask(Task t) {
        Goal g = goals.get(t.goal);
        return switch (g.kind) {
            case SAME -> new Result(same(t.state, in(t.frame, g.one), in(t.frame, g.two)), null);
            case DIFFER -> new Result(differ(t.state, in(t.frame, g.one), in(t.frame, g.two)), null);
            case EITHER -> new Result(null,
                    new Sum(new Task(g.one, t.frame, t.state), new Task(g.two, t.frame, t.state)));
            case BOTH -> new Result(null, new Product(new Task(g.one, t.frame, t.state), g.two, t.frame));
            case CALL -> new Result(null, enter(g, t));
        };
    }

    private Tree enter(Goal g, Task t) {
        int goal = relations[g.relation];
        if (goal == -1) {
            return null;
        }
        if (frames == 40) {
            throw new Full("frames");
        }
        int frame = frames++;
        Map<Variable, Term> all = new HashMap<>(t.state.bindings);
        bind(all, new Variable(frame, 0), in(t.frame, g.one));
        bind(all, new Variable(frame, 1), in(t.frame, g.two));
        bind(all, new Variable(frame, 2), in(t.frame, g.three));
        return new Task(goal, frame, new State(all, t.state.conditions));
    }

    private Term in(int frame, int term) {
        return framed(frame, terms.get(term), new HashMap<>());
    }

    private Term framed(int frame, Term t, Map<Term, Term> seen) {
        if (t instanceof Place p) {
            return new Variable(frame, p.number);
        }
        if (t instanceof Pair p) {
            Term done = seen.get(p);
            if (done == null) {
                done = new Pair(framed(frame, p.first, seen), framed(frame, p.second, seen));
                seen.put(p, done);
            }
            return done;
        }
        return t;
    }

    private void look() {
        if (++looks > 500) {
            throw new Full("looks");
        }
    }

    private void bind(Map<Variable, Term> all, Variable v, Term t) {
        if (++bindings > 1000) {
            throw new Full("bindings");
        }
        all.put(v, t);
    }

    private static Term is(Map<Variable, Term> all, Term t) {
        while (t instanceof Variable && all.containsKey(t)) {
            t = all.get(t);
        }
        return t;
    }

    /** Matches, with the new bindings put into all; what fails leaves all unfit for use. */
    private boolean match(Map<Variable, Term> all, Term one, Term other) {
        look();
        Term a = is(all, one);
        Term b = is(all, other);
        if (a instanceof Variable && a.equals(b) || a instanceof Atom && a.equals(b)) {
            return true;
        }
        if (a instanceof Variable v) {
            return !occurs(all, v, b) && bound(all, v, b);
        }
        if (b instanceof Variable v) {
            return !occurs(all, v, a) && bound(all, v, a);
        }
        return a instanceof Pair p && b instanceof Pair q
                && match(all, p.first, q.first) && match(all, p.second, q.second);
    }

    private boolean bound(Map<Variable, Term> all, Variable v, Term t) {
        bind(all, v, t);
        return true;
    }

    private boolean occurs(Map<Variable, Term> all, Variable v, Term t) {
        look();
        Term what = is(all, t);
        return what.equals(v) || what instanceof Pair p && (occurs(all, v, p.first) || occurs(all, v, p.second));
    }

    /** -1 broken, 1 decided, 0 neither. */
    private int judge(Map<Variable, Term> all, Condition c) {
        Map<Variable, Term> tried = new HashMap<>(all);
        if (!match(tried, c.one, c.other)) {
            decided++;
            return 1;
        }
        if (tried.size() == all.size()) {
            broken++;
            return -1;
        }
        return 0;
    }

    private State same(State s, Term one, Term other) {
        Map<Variable, Term> all = new HashMap<>(s.bindings);
        if (!match(all, one, other)) {
            return null;
        }
        List<Condition> kept = new ArrayList<>();
        for (Condition c : s.conditions) {
            int verdict = judge(all, c);
            if (verdict < 0) {
                return null;
            }
            if (verdict == 0) {
                kept.add(c);
            }
        }
        return new State(all, kept);
    }

    private State differ(State s, Term one, Term other) {
        Condition c = new Condition(one, other);
        int verdict = judge(s.bindings, c);
        if (verdict < 0) {
            return null;
        }
        if (verdict > 0) {
            return s;
        }
        if (++conditions > 120) {
            throw new Full("conditions");
        }
        List<Condition> more = new ArrayList<>(s.conditions);
        more.add(c);
        return new State(s.bindings, more);
    }

    private Told tell(State s) {
        List<Variable> met = new ArrayList<>();
        List<List<Integer>> parts = new ArrayList<>();
        parts.add(write(s, new Variable(0, 0), met, new ArrayList<>()));
        for (int i = 0; i < s.conditions.size() && i < 3; i++) {
            parts.add(write(s, s.conditions.get(i).one, met, new ArrayList<>()));
            parts.add(write(s, s.conditions.get(i).other, met, new ArrayList<>()));
        }
        return new Told(parts, s.conditions.size());
    }

    private List<Integer> write(State s, Term t, List<Variable> met, List<Integer> text) {
        if (text.size() >= 40) {
            return text;
        }
        Term what = is(s.bindings, t);
        if (what instanceof Atom a) {
            text.add(a.number);
        } else if (what instanceof Variable v) {
            if (!met.contains(v)) {
                met.add(v);
            }
            text.add(20 + met.indexOf(v));
        } else if (what instanceof Pair p) {
            text.add(10);
            write(s, p.first, met, text);
            write(s, p.second, met, text);
        }
        return text;
    }
}
