import java.util.Arrays;

/**
 * A machine for relations: a goal that is asked becomes a tree of tasks, of which one small step
 * after the other is done, in turn on both sides of a choice. The document is ../shared/DOC.md.
 *
 * <p>Every row is made in a constructor and used again by the next question, so that calls make no
 * objects. A term in a frame is one number, frame * TERM_ROOM + term, and is called a spot.
 *
 * <p>A counter that has a limit may go one beyond it and has room for that one: the step is then
 * done to its end and refused as a whole, so that nothing has to be taken back.
 */
public final class RelationStream {
    private static final int MOST_TERMS = 40;
    // Behind the terms that are made stands place 0, by which a question's variable 0 always has a spot.
    private static final int HIDDEN_PLACE = MOST_TERMS;
    private static final int TERM_ROOM = MOST_TERMS + 1;
    private static final int MOST_GOALS = 40;
    private static final int MOST_RELATIONS = 4;
    private static final int ATOMS = 10;
    private static final int PLACES = 6;
    private static final int MOST_STEPS = 200;

    private static final int MOST_LOOKS = 500;
    private static final int MOST_FRAMES = 40;
    private static final int MOST_BINDINGS = 1000;
    private static final int MOST_CONDITIONS = 120;
    private static final int MOST_NODES = 60;
    private static final int MOST_ANSWERS = 20;
    private static final int VARIABLES = (MOST_FRAMES + 1) * PLACES;

    // A step adds two nodes at most.
    private static final int NODE_ROOM = MOST_NODES + 4;

    private static final int LONGEST_TEXT = 40;
    private static final int TOLD_CONDITIONS = 3;
    private static final int PARTS = 1 + 2 * TOLD_CONDITIONS;
    private static final int PAIR_MARK = 10;
    private static final int FIRST_VARIABLE_MARK = 20;

    private static final int NONE = -1;

    private static final int ATOM = 0;
    private static final int PLACE = 1;
    private static final int PAIR = 2;

    private static final int SAME = 0;
    private static final int DIFFER = 1;
    private static final int BOTH = 2;
    private static final int EITHER = 3;
    private static final int CALL = 4;

    private static final int BROKEN = 0;
    private static final int DECIDED = 1;
    private static final int OPEN = 2;

    private static final int NO_QUESTION = 0;
    private static final int GOES_ON = 1;
    private static final int ENDED = 2;
    private static final int FULL = 3;

    // What may be counted; a node's kind is the number under which its kind is counted.
    private static final int ANSWERS = 0;
    private static final int TASK = 1;
    private static final int SUM = 2;
    private static final int PRODUCT = 3;
    private static final int FRAMES = 4;
    private static final int BINDINGS = 5;
    private static final int CONDITIONS = 6;
    private static final int STEPS = 7;
    private static final int COUNTS = 8;
    // Nobody counts the nodes that are not in the tree.
    private static final int SPARE = 0;
    private static final int NODE_KINDS = 4;

    private final Terms terms;
    private final Goals goals;
    private final Question question;

    public RelationStream() {
        terms = new Terms();
        goals = new Goals();
        question = new Question(terms, goals);
    }

    public int atom(int a) throws IllegalArgumentException, IllegalStateException {
        refuseUnless(a >= 0 && a < ATOMS);
        return newTerm(ATOM, a, NONE);
    }

    public int place(int k) throws IllegalArgumentException, IllegalStateException {
        refuseUnless(k >= 0 && k < PLACES);
        return newTerm(PLACE, k, NONE);
    }

    public int pair(int first, int second) throws IllegalArgumentException, IllegalStateException {
        refuseUnless(terms.has(first) && terms.has(second));
        return newTerm(PAIR, first, second);
    }

    public int relate(boolean same, int one, int other) throws IllegalArgumentException, IllegalStateException {
        refuseUnless(terms.has(one) && terms.has(other));
        stopIf(goals.made >= MOST_GOALS);
        return goals.add(same ? SAME : DIFFER, one, other);
    }

    public int combine(boolean both, int one, int other) throws IllegalArgumentException, IllegalStateException {
        refuseUnless(goals.has(one) && goals.has(other));
        stopIf(goals.made >= MOST_GOALS);
        return goals.add(both ? BOTH : EITHER, one, other);
    }

    public int call(int relation, int one, int two, int three) throws IllegalArgumentException, IllegalStateException {
        refuseUnless(isRelation(relation) && terms.has(one) && terms.has(two) && terms.has(three));
        stopIf(goals.made >= MOST_GOALS);
        return goals.addCall(relation, one, two, three);
    }

    public void define(int relation, int goal) throws IllegalArgumentException {
        refuseUnless(isRelation(relation) && (goal == NONE || goals.has(goal)));
        goals.ofRelation[relation] = goal;
    }

    public void ask(int goal) throws IllegalArgumentException {
        refuseUnless(goals.has(goal));
        question.start(goal);
    }

    public int run(int steps, boolean one) throws IllegalArgumentException, IllegalStateException {
        refuseUnless(steps >= 0 && steps <= MOST_STEPS);
        stopIf(question.stage == NO_QUESTION);
        int done = 0;
        boolean enough = false;
        while (done < steps && !enough && question.step()) {
            done++;
            enough = one && question.answered;
        }
        return done;
    }

    public int status() {
        return question.stage;
    }

    public int count(int what) throws IndexOutOfBoundsException {
        refuseIndexUnless(what >= 0 && what < COUNTS);
        return question.counts[what];
    }

    public int text(int answer, int part, int i) throws IndexOutOfBoundsException {
        refuseIndexUnless(question.answers.has(answer) && part >= 0 && part < PARTS);
        return question.answers.numberAt(answer, part, i);
    }

    public int conditions(int answer) throws IndexOutOfBoundsException {
        refuseIndexUnless(question.answers.has(answer));
        return question.answers.conditionsOf[answer];
    }

    private int newTerm(int kind, int first, int second) {
        stopIf(terms.made >= MOST_TERMS);
        return terms.add(kind, first, second);
    }

    private static boolean isRelation(int relation) {
        return relation >= 0 && relation < MOST_RELATIONS;
    }

    private static void refuseUnless(boolean good) {
        if (!good) {
            throw new IllegalArgumentException();
        }
    }

    private static void stopIf(boolean bad) {
        if (bad) {
            throw new IllegalStateException();
        }
    }

    private static void refuseIndexUnless(boolean good) {
        if (!good) {
            throw new IndexOutOfBoundsException();
        }
    }

    private static int spot(int frame, int term) {
        return frame * TERM_ROOM + term;
    }

    /** The terms; first is an atom's or a place's number, or a pair's first half. */
    private static final class Terms {
        final int[] kind = new int[TERM_ROOM];
        final int[] first = new int[TERM_ROOM];
        final int[] second = new int[TERM_ROOM];
        int made = 0;

        Terms() {
            kind[HIDDEN_PLACE] = PLACE;
        }

        boolean has(int term) {
            return term >= 0 && term < made;
        }

        int add(int newKind, int newFirst, int newSecond) {
            int term = made;
            if (term < MOST_TERMS) {
                kind[term] = newKind;
                first[term] = newFirst;
                second[term] = newSecond;
                made++;
            }
            return term;
        }
    }

    /** The goals, and which of them the relations have; one, two, three are terms, or goals of BOTH and EITHER. */
    private static final class Goals {
        final int[] kind = new int[MOST_GOALS];
        final int[] one = new int[MOST_GOALS];
        final int[] two = new int[MOST_GOALS];
        final int[] three = new int[MOST_GOALS];
        final int[] relation = new int[MOST_GOALS];
        final int[] ofRelation = new int[MOST_RELATIONS];
        int made = 0;

        Goals() {
            Arrays.fill(ofRelation, NONE);
        }

        boolean has(int goal) {
            return goal >= 0 && goal < made;
        }

        int add(int newKind, int newOne, int newTwo) {
            int goal = made;
            if (goal < MOST_GOALS) {
                kind[goal] = newKind;
                one[goal] = newOne;
                two[goal] = newTwo;
                made++;
            }
            return goal;
        }

        int addCall(int newRelation, int newOne, int newTwo, int newThree) {
            int goal = add(CALL, newOne, newTwo);
            if (has(goal)) {
                three[goal] = newThree;
                relation[goal] = newRelation;
            }
            return goal;
        }
    }

    /**
     * All bindings of a question, each with the one that its state had before it: a state is named
     * by its latest binding. The state that is worked on is also spread out, by variable.
     */
    private static final class Bindings {
        final Terms terms;
        final int[] variable = new int[MOST_BINDINGS + 1];
        final int[] value = new int[MOST_BINDINGS + 1];
        final int[] before = new int[MOST_BINDINGS + 1];
        final int[] spread = new int[VARIABLES];
        int made = 0;
        int latest = NONE;

        Bindings(Terms terms) {
            this.terms = terms;
        }

        void clear() {
            made = 0;
            latest = NONE;
        }

        boolean isOver() {
            return made > MOST_BINDINGS;
        }

        void spreadOut(int state) {
            Arrays.fill(spread, NONE);
            latest = state;
            int binding = state;
            for (int i = 0; i < VARIABLES && binding >= 0; i++) {
                spread[variable[binding]] = value[binding];
                binding = before[binding];
            }
        }

        void bind(int newVariable, int newValue) {
            if (made <= MOST_BINDINGS) {
                variable[made] = newVariable;
                value[made] = newValue;
                before[made] = latest;
                spread[newVariable] = newValue;
                latest = made;
                made++;
            }
        }

        /** Goes back to a state; the bindings that are taken back still count. */
        void goBack(int state, int madeThen) {
            for (int binding = madeThen; binding < made; binding++) {
                spread[variable[binding]] = NONE;
            }
            latest = state;
        }

        /** What the term at a spot is: the spot of an atom, a pair or a variable that is not bound. */
        int find(int start) {
            int here = start;
            // No variable comes twice on the way, as none is ever bound to itself.
            for (int i = 0; i < VARIABLES; i++) {
                int term = here % TERM_ROOM;
                if (terms.kind[term] != PLACE) {
                    return here;
                }
                int next = spread[here / TERM_ROOM * PLACES + terms.first[term]];
                if (next < 0) {
                    return here;
                }
                here = next;
            }
            return here;
        }

        int variableAt(int here) {
            return here / TERM_ROOM * PLACES + terms.first[here % TERM_ROOM];
        }
    }

    /** Matches terms in the state that is spread out; stacks take the place of recursion, which could go 500 deep. */
    private static final class Matcher {
        final Terms terms;
        final Bindings bindings;
        // Every look takes one away and brings two at most.
        final int[] ones = new int[MOST_LOOKS + 3];
        final int[] others = new int[MOST_LOOKS + 3];
        final int[] insides = new int[MOST_LOOKS + 3];
        int looks = 0;

        Matcher(Terms terms, Bindings bindings) {
            this.terms = terms;
            this.bindings = bindings;
        }

        boolean isOver() {
            return looks > MOST_LOOKS || bindings.isOver();
        }

        boolean match(int one, int other) {
            ones[0] = one;
            others[0] = other;
            int waiting = 1;
            while (waiting > 0 && looks <= MOST_LOOKS && !bindings.isOver()) {
                looks++;
                waiting--;
                int left = bindings.find(ones[waiting]);
                int right = bindings.find(others[waiting]);
                int leftKind = terms.kind[left % TERM_ROOM];
                int rightKind = terms.kind[right % TERM_ROOM];
                if (leftKind == PAIR && rightKind == PAIR) {
                    pushHalves(left, right, waiting);
                    waiting += 2;
                } else if (leftKind == PLACE || rightKind == PLACE) {
                    int free = leftKind == PLACE ? left : right;
                    int value = leftKind == PLACE ? right : left;
                    if (!isSameVariable(left, right)) {
                        if (isInside(bindings.variableAt(free), value)) {
                            return false;
                        }
                        bindings.bind(bindings.variableAt(free), value);
                    }
                } else if (leftKind != rightKind || terms.first[left % TERM_ROOM] != terms.first[right % TERM_ROOM]) {
                    return false;
                }
            }
            return true;
        }

        private void pushHalves(int left, int right, int waiting) {
            int leftFrame = left / TERM_ROOM;
            int rightFrame = right / TERM_ROOM;
            // The first halves lie on top, as they come first.
            ones[waiting] = spot(leftFrame, terms.second[left % TERM_ROOM]);
            others[waiting] = spot(rightFrame, terms.second[right % TERM_ROOM]);
            ones[waiting + 1] = spot(leftFrame, terms.first[left % TERM_ROOM]);
            others[waiting + 1] = spot(rightFrame, terms.first[right % TERM_ROOM]);
        }

        private boolean isSameVariable(int left, int right) {
            return terms.kind[left % TERM_ROOM] == PLACE && terms.kind[right % TERM_ROOM] == PLACE
                    && bindings.variableAt(left) == bindings.variableAt(right);
        }

        private boolean isInside(int variable, int start) {
            insides[0] = start;
            int waiting = 1;
            while (waiting > 0 && looks <= MOST_LOOKS) {
                looks++;
                waiting--;
                int here = bindings.find(insides[waiting]);
                int term = here % TERM_ROOM;
                if (terms.kind[term] == PLACE && bindings.variableAt(here) == variable) {
                    return true;
                }
                if (terms.kind[term] == PAIR) {
                    insides[waiting] = spot(here / TERM_ROOM, terms.second[term]);
                    insides[waiting + 1] = spot(here / TERM_ROOM, terms.first[term]);
                    waiting += 2;
                }
            }
            return false;
        }

        /** What a condition about the terms at two spots is: BROKEN, DECIDED or OPEN. */
        int judge(int one, int other) {
            int state = bindings.latest;
            int madeThen = bindings.made;
            boolean matched = match(one, other);
            boolean boundNothing = bindings.made == madeThen;
            bindings.goBack(state, madeThen);
            if (!matched) {
                return DECIDED;
            }
            return boundNothing ? BROKEN : OPEN;
        }
    }

    /** A state: its latest binding, and which conditions it has, a bit for each of the question's. */
    private static final class State {
        int latest = NONE;
        long early = 0;
        long late = 0;

        void clear() {
            latest = NONE;
            early = 0;
            late = 0;
        }

        void copy(State other) {
            latest = other.latest;
            early = other.early;
            late = other.late;
        }

        boolean hasCondition(int number) {
            return ((number < 64 ? early : late) >>> number & 1) != 0;
        }

        void addCondition(int number) {
            if (number < 64) {
                early |= 1L << number;
            } else {
                late |= 1L << number;
            }
        }

        void dropCondition(int number) {
            if (number < 64) {
                early &= ~(1L << number);
            } else {
                late &= ~(1L << number);
            }
        }

        int howManyConditions() {
            return Long.bitCount(early) + Long.bitCount(late);
        }
    }

    /** A part of the tree: a task has goal, frame and state; a sum two trees; a product a tree, goal and frame. */
    private static final class Node {
        int kind = SPARE;
        Node first = null;
        Node second = null;
        int goal = NONE;
        int frame = 0;
        final State state = new State();

        void setGoal(int newGoal, int newFrame) {
            goal = newGoal;
            frame = newFrame;
        }
    }

    /** The tree's nodes, and those that are spare, in a chain by their second. */
    private static final class Tree {
        final Node[] nodes = new Node[NODE_ROOM];
        final int[] howMany = new int[NODE_KINDS];
        Node root = null;
        Node spare = null;

        Tree() {
            for (int i = 0; i < NODE_ROOM; i++) {
                nodes[i] = new Node();
            }
        }

        void clear() {
            root = null;
            spare = null;
            Arrays.fill(howMany, 0);
            for (int i = 0; i < NODE_ROOM; i++) {
                nodes[i].kind = SPARE;
                nodes[i].second = spare;
                spare = nodes[i];
            }
            howMany[SPARE] = NODE_ROOM;
        }

        int size() {
            return howMany[TASK] + howMany[SUM] + howMany[PRODUCT];
        }

        void turn(Node node, int kind) {
            howMany[node.kind]--;
            node.kind = kind;
            howMany[kind]++;
        }

        Node take(int kind) {
            Node node = spare;
            if (node == null) {
                node = new Node();
            } else {
                spare = node.second;
            }
            turn(node, kind);
            return node;
        }

        void giveBack(Node node) {
            turn(node, SPARE);
            node.first = null;
            node.second = spare;
            spare = node;
        }

        Node newTask(int goal, int frame, State state) {
            Node task = take(TASK);
            task.setGoal(goal, frame);
            task.state.copy(state);
            return task;
        }

        void turnToSum(Node node, Node first, Node second) {
            turn(node, SUM);
            node.first = first;
            node.second = second;
        }

        /** What a sum leaves whose first tree left this. */
        Node stepSum(Node sum, Node left) {
            Node other = sum.second;
            if (left == null) {
                giveBack(sum);
                return other;
            }
            sum.first = other;
            sum.second = left;
            return sum;
        }

        /** What a product leaves whose tree left this without an answer. */
        Node stepProduct(Node product, Node left) {
            if (left == null) {
                giveBack(product);
                return null;
            }
            product.first = left;
            return product;
        }

        /** What a product leaves whose tree left this with an answer. */
        Node stepProductWith(Node product, Node left, State answer) {
            Node task = newTask(product.goal, product.frame, answer);
            Node rest = stepProduct(product, left);
            if (rest == null) {
                return task;
            }
            Node sum = take(SUM);
            turnToSum(sum, task, rest);
            return sum;
        }
    }

    /** The answers' texts, which are written when an answer comes, while its state is spread out. */
    private static final class Answers {
        final Terms terms;
        final Bindings bindings;
        final int[] numbers = new int[MOST_ANSWERS * PARTS * LONGEST_TEXT];
        final int[] lengths = new int[MOST_ANSWERS * PARTS];
        final int[] conditionsOf = new int[MOST_ANSWERS];
        final int[] marks = new int[VARIABLES];
        final int[] untold = new int[LONGEST_TEXT + 2];
        int nextMark = FIRST_VARIABLE_MARK;
        int made = 0;

        Answers(Terms terms, Bindings bindings) {
            this.terms = terms;
            this.bindings = bindings;
        }

        boolean has(int answer) {
            return answer >= 0 && answer < made;
        }

        int numberAt(int answer, int part, int i) {
            int row = answer * PARTS + part;
            return i >= 0 && i < lengths[row] ? numbers[row * LONGEST_TEXT + i] : -1;
        }

        void begin(int conditionCount) {
            if (made < MOST_ANSWERS) {
                conditionsOf[made] = conditionCount;
                Arrays.fill(lengths, made * PARTS, (made + 1) * PARTS, 0);
                Arrays.fill(marks, NONE);
                nextMark = FIRST_VARIABLE_MARK;
                made++;
            }
        }

        /** Writes a part of the latest answer. */
        void write(int part, int start) {
            int row = (made - 1) * PARTS + part;
            if (row < 0 || row >= lengths.length) {
                return;
            }
            untold[0] = start;
            int waiting = 1;
            int length = 0;
            while (waiting > 0 && length < LONGEST_TEXT) {
                waiting--;
                int here = bindings.find(untold[waiting]);
                int term = here % TERM_ROOM;
                numbers[row * LONGEST_TEXT + length] = markOf(here);
                length++;
                if (terms.kind[term] == PAIR) {
                    untold[waiting] = spot(here / TERM_ROOM, terms.second[term]);
                    untold[waiting + 1] = spot(here / TERM_ROOM, terms.first[term]);
                    waiting += 2;
                }
            }
            lengths[row] = length;
        }

        private int markOf(int here) {
            int term = here % TERM_ROOM;
            if (terms.kind[term] == PAIR) {
                return PAIR_MARK;
            }
            if (terms.kind[term] == ATOM) {
                return terms.first[term];
            }
            int variable = bindings.variableAt(here);
            if (marks[variable] < 0) {
                marks[variable] = nextMark;
                nextMark++;
            }
            return marks[variable];
        }
    }

    /** The question that was asked last: its tree, what it has used up, and its answers. */
    private static final class Question {
        final Goals goals;
        final Bindings bindings;
        final Matcher matcher;
        final Answers answers;
        final Tree tree = new Tree();
        final Node[] path = new Node[NODE_ROOM];
        final int[] conditionOnes = new int[MOST_CONDITIONS + 1];
        final int[] conditionOthers = new int[MOST_CONDITIONS + 1];
        final int[] counts = new int[COUNTS];
        final State answer = new State();
        Node turn = null;
        int conditionsMade = 0;
        int frames = 0;
        int stage = NO_QUESTION;
        boolean answered = false;

        Question(Terms terms, Goals goals) {
            this.goals = goals;
            bindings = new Bindings(terms);
            matcher = new Matcher(terms, bindings);
            answers = new Answers(terms, bindings);
        }

        void start(int goal) {
            bindings.clear();
            tree.clear();
            answer.clear();
            answers.made = 0;
            conditionsMade = 0;
            frames = 1;
            answered = false;
            tree.root = tree.newTask(goal, 0, answer);
            stage = GOES_ON;
            counts[STEPS] = 0;
            takeCounts();
        }

        /** Does a step; false if there was none that counts. */
        boolean step() {
            if (stage != GOES_ON || tree.root == null) {
                return false;
            }
            matcher.looks = 0;
            answered = false;
            int depth = goDown(tree.root);
            Node left = stepTask(turn);
            tree.root = goUp(left, depth);
            if (isOver()) {
                stage = FULL;
                return false;
            }
            if (answered) {
                writeAnswer();
            }
            if (tree.root == null) {
                stage = ENDED;
            }
            counts[STEPS]++;
            takeCounts();
            return true;
        }

        private boolean isOver() {
            return matcher.isOver() || frames > MOST_FRAMES || conditionsMade > MOST_CONDITIONS
                    || tree.size() > MOST_NODES || answered && answers.made >= MOST_ANSWERS;
        }

        /** Counts are taken after steps that count alone, so that one that is refused is not seen in them. */
        private void takeCounts() {
            counts[ANSWERS] = answers.made;
            counts[TASK] = tree.howMany[TASK];
            counts[SUM] = tree.howMany[SUM];
            counts[PRODUCT] = tree.howMany[PRODUCT];
            counts[FRAMES] = frames;
            counts[BINDINGS] = bindings.made;
            counts[CONDITIONS] = conditionsMade;
        }

        /** Goes down to the task whose turn it is; answers how many nodes stand above it. */
        private int goDown(Node root) {
            int depth = 0;
            turn = root;
            while (turn.kind != TASK && turn.first != null && depth < NODE_ROOM) {
                path[depth] = turn;
                depth++;
                turn = turn.first;
            }
            return depth;
        }

        /** What the whole tree leaves if the task whose turn it was left this. */
        private Node goUp(Node taskLeft, int depth) {
            Node left = taskLeft;
            for (int i = depth - 1; i >= 0; i--) {
                Node parent = path[i];
                if (parent.kind == SUM) {
                    left = tree.stepSum(parent, left);
                } else if (answered) {
                    // The product's goal takes the answer over.
                    answered = false;
                    left = tree.stepProductWith(parent, left, answer);
                } else {
                    left = tree.stepProduct(parent, left);
                }
            }
            return left;
        }

        private Node stepTask(Node task) {
            switch (goals.kind[task.goal]) {
                case EITHER:
                    return splitTask(task);
                case BOTH:
                    return chainTask(task);
                case CALL:
                    return enterRelation(task);
                case SAME:
                    answered = matchTerms(task) && keepConditions();
                    break;
                default:
                    answered = setApart(task);
                    break;
            }
            tree.giveBack(task);
            return null;
        }

        private Node splitTask(Node task) {
            Node one = tree.newTask(goals.one[task.goal], task.frame, task.state);
            Node other = tree.newTask(goals.two[task.goal], task.frame, task.state);
            tree.turnToSum(task, one, other);
            return task;
        }

        private Node chainTask(Node task) {
            task.first = tree.newTask(goals.one[task.goal], task.frame, task.state);
            tree.turn(task, PRODUCT);
            task.setGoal(goals.two[task.goal], task.frame);
            return task;
        }

        private Node enterRelation(Node task) {
            int goal = task.goal;
            int relationGoal = goals.ofRelation[goals.relation[goal]];
            if (relationGoal < 0) {
                tree.giveBack(task);
                return null;
            }
            if (frames <= MOST_FRAMES) {
                int variable = frames * PLACES;
                bindings.latest = task.state.latest;
                bindings.bind(variable, spot(task.frame, goals.one[goal]));
                bindings.bind(variable + 1, spot(task.frame, goals.two[goal]));
                bindings.bind(variable + 2, spot(task.frame, goals.three[goal]));
                task.state.latest = bindings.latest;
                task.setGoal(relationGoal, frames);
                frames++;
            }
            return task;
        }

        /** Does a SAME but for the conditions; false if it fails. */
        private boolean matchTerms(Node task) {
            answer.copy(task.state);
            bindings.spreadOut(task.state.latest);
            boolean matched = matcher.match(spot(task.frame, goals.one[task.goal]),
                    spot(task.frame, goals.two[task.goal]));
            answer.latest = bindings.latest;
            return matched;
        }

        /** Does a DIFFER; false if its condition would be broken. */
        private boolean setApart(Node task) {
            int one = spot(task.frame, goals.one[task.goal]);
            int other = spot(task.frame, goals.two[task.goal]);
            answer.copy(task.state);
            bindings.spreadOut(task.state.latest);
            int verdict = matcher.judge(one, other);
            if (verdict == OPEN && conditionsMade <= MOST_CONDITIONS) {
                conditionOnes[conditionsMade] = one;
                conditionOthers[conditionsMade] = other;
                answer.addCondition(conditionsMade);
                conditionsMade++;
            }
            return verdict != BROKEN;
        }

        /** Drops the answer's conditions that are decided; false if one is broken. */
        private boolean keepConditions() {
            // The order of their numbers is the order in which they came.
            for (int i = 0; i < conditionsMade && !matcher.isOver(); i++) {
                if (answer.hasCondition(i)) {
                    int verdict = matcher.judge(conditionOnes[i], conditionOthers[i]);
                    if (verdict == BROKEN) {
                        return false;
                    }
                    if (verdict == DECIDED) {
                        answer.dropCondition(i);
                    }
                }
            }
            return true;
        }

        private void writeAnswer() {
            answers.begin(answer.howManyConditions());
            answers.write(0, spot(0, HIDDEN_PLACE));
            int part = 1;
            for (int i = 0; i < conditionsMade && part < PARTS; i++) {
                if (answer.hasCondition(i)) {
                    answers.write(part, conditionOnes[i]);
                    answers.write(part + 1, conditionOthers[i]);
                    part += 2;
                }
            }
        }
    }
}
