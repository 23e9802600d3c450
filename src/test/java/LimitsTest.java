/** Each way in which a question is full: the last step that still counts, and the first that does not. */
public final class LimitsTest {
    private LimitsTest() {
    }

    /** A pair with so many parts in all (an odd number), of one atom: from the halves that are made already. */
    private static int bigPair(RelationStream x, int[] whole, int parts) {
        int term = whole[0];
        int size = 1;
        for (int d = 8; d >= 0; d--) {
            int more = (2 << d) - 1;
            while (size + 1 + more <= parts) {
                term = x.pair(term, whole[d]);
                size += 1 + more;
            }
        }
        Check.due("parts of a pair", size, parts);
        return term;
    }

    /** Trees of pairs: the one of depth d has 2 * 2^d - 1 parts. */
    private static int[] wholePairs(RelationStream x) {
        int[] whole = new int[9];
        whole[0] = x.atom(5);
        for (int d = 1; d < whole.length; d++) {
            whole[d] = x.pair(whole[d - 1], whole[d - 1]);
        }
        return whole;
    }

    private static void runSteps(String what, RelationStream x, int steps) {
        for (int left = steps; left > 0; left -= 200) {
            int some = Math.min(left, 200);
            Check.due(what + ": steps that count", x.run(some, false), some);
        }
    }

    /** The question ends with so many steps and answers. */
    private static void ends(String what, RelationStream x, int goal, int steps, int answers) {
        Check.due(what + ": steps", Check.askAndRun(x, goal), steps);
        Check.due(what + ": status", x.status(), 2);
        Check.due(what + ": answers", x.count(0), answers);
    }

    /** The question does so many steps, and the one behind them is too much. */
    private static void isFullBehind(String what, RelationStream x, int goal, int steps) {
        x.ask(goal);
        runSteps(what, x, steps);
        Check.due(what + ": steps before", x.count(7), steps);
        isFullNext(what, x);
    }

    /** The next step is too much. */
    private static void isFullNext(String what, RelationStream x) {
        Check.due(what + ": status before", x.status(), 1);
        String before = Check.seenCounts(x);
        Check.due(what + ": the step that is too much", x.run(1, true), 0);
        Check.due(what + ": status", x.status(), 3);
        Check.unchangedCounts(what + ": when it is full", before, x);
        int answers = x.count(0);
        Check.refused(what + ": the answer that it does not give", Check.INDEX, () -> x.text(answers, 0, 0));
        Check.due(what + ": no more steps", x.run(200, false), 0);
        Check.due(what + ": status after that", x.status(), 3);
        Check.unchangedCounts(what + ": after that", before, x);
    }

    private static void looksOfMatching() {
        Check.about("500 looks");
        RelationStream x = new RelationStream();
        int place = x.place(0);
        int[] whole = wholePairs(x);
        int less = bigPair(x, whole, 499);
        int more = bigPair(x, whole, 501);
        ends("499 looks at pairs and atoms", x, x.relate(true, less, less), 1, 1);
        ends("500 looks with those at what must not occur", x, x.relate(true, place, less), 1, 1);
        ends("500 looks the other way round", x, x.relate(true, less, place), 1, 1);
        isFullBehind("501 looks at pairs and atoms", x, x.relate(true, more, more), 0);
        isFullBehind("502 looks with those at what must not occur", x, x.relate(true, place, more), 0);
        isFullBehind("502 looks the other way round", x, x.relate(true, more, place), 0);
        int other = x.pair(whole[0], place);
        ends("a few looks, after a question that was full", x, x.relate(true, other, other), 1, 1);
    }

    private static void looksOfDiffer() {
        Check.about("500 looks");
        RelationStream x = new RelationStream();
        int place = x.place(0);
        int[] whole = wholePairs(x);
        int less = bigPair(x, whole, 499);
        int more = bigPair(x, whole, 501);
        ends("DIFFER with 500 looks", x, x.relate(false, place, less), 1, 1);
        ends("DIFFER with 499 looks, which is broken", x, x.relate(false, less, less), 1, 0);
        isFullBehind("DIFFER with 501 looks, which would be broken", x, x.relate(false, more, more), 0);
        isFullBehind("DIFFER with 502 looks", x, x.relate(false, place, more), 0);
    }

    private static void looksOfWhatFails() {
        Check.about("500 looks");
        RelationStream x = new RelationStream();
        int place = x.place(0);
        int one = x.atom(1);
        int two = x.atom(2);
        int[] whole = wholePairs(x);
        int less = bigPair(x, whole, 495);
        int more = bigPair(x, whole, 499);
        int leftEnd = x.pair(place, x.pair(less, one));
        int rightEnd = x.pair(one, x.pair(less, two));
        ends("it fails at look 500", x, x.relate(true, leftEnd, rightEnd), 1, 0);
        ends("it is decided at look 500", x, x.relate(false, leftEnd, rightEnd), 1, 1);
        int left = x.pair(more, one);
        int right = x.pair(more, two);
        isFullBehind("it would fail at look 501", x, x.relate(true, left, right), 0);
        isFullBehind("it would be decided at look 501", x, x.relate(false, left, right), 0);
    }

    private static void looksTillItIsFound() {
        Check.about("looks, one each, at what that is, and, for a pair, first what occurs in its first half, then in "
                + "the second, till it is found");
        RelationStream x = new RelationStream();
        int place = x.place(0);
        int other = x.place(1);
        int[] whole = wholePairs(x);
        int big = bigPair(x, whole, 495);
        int bigger = x.pair(big, whole[0]);
        ends("found early, before 511 parts more", x, x.relate(true, place, x.pair(place, whole[8])), 1, 0);
        Check.due("no binding", x.count(5), 0);
        ends("found at look 500", x, x.relate(true, place, x.pair(bigger, place)), 1, 0);
        int left = x.pair(other, place);
        int right = x.pair(whole[0], x.pair(big, place));
        isFullBehind("it would be found at look 501", x, x.relate(true, left, right), 0);
        isFullBehind("behind 511 parts more", x, x.relate(true, place, x.pair(whole[8], place)), 0);
    }

    /** The match has 496 looks; a condition that stays open has two, one that is broken or decided has one. */
    private static void looksAtConditions() {
        Check.about("if that fails, or a condition is BROKEN then (all are looked at in order, till one is)");
        RelationStream x = new RelationStream();
        int place = x.place(0);
        int bound = x.place(1);
        int one = x.atom(1);
        int two = x.atom(2);
        int[] whole = wholePairs(x);
        int big = bigPair(x, whole, 493);
        int same = x.relate(true, x.pair(bound, big), x.pair(one, big));
        int open = x.relate(false, place, one);
        int broken = x.relate(false, bound, one);
        int decided = x.relate(false, bound, two);
        ends("500 looks with two that are open", x, Check.all(x, open, open, same), 5, 1);
        isFullBehind("502 looks with three that are open", x, Check.all(x, open, open, open, same), 6);
        ends("499 looks with one of them decided", x, Check.all(x, open, decided, same), 5, 1);
        isFullBehind("501 looks with one more that is decided", x, Check.all(x, open, open, decided, same), 6);
        isFullBehind("501 looks with one more that would be broken", x, Check.all(x, open, open, broken, same), 6);
        ends("497 looks till one is broken", x, Check.all(x, broken, open, open, same), 7, 0);
        ends("499 looks till one is broken", x, Check.all(x, open, broken, open, same), 7, 0);
    }

    /** Pairs within first halves, 25 more with each call, so that many second halves wait at once; then one goal. */
    private static RelationStream deepPairs(boolean inside, int calls) {
        RelationStream x = Check.withPlacesAndAtoms();
        int deep = 3;
        for (int i = 0; i < 25; i++) {
            deep = x.pair(deep, 6);
        }
        int call = x.call(0, 3, 1, 2);
        x.define(0, x.combine(true, x.relate(true, 0, deep), call));
        x.ask(x.call(0, 0, 0, 0));
        runSteps("calls", x, 3 * calls);
        x.define(0, x.relate(true, inside ? 4 : 1, 1));
        runSteps("the last call", x, 1);
        return x;
    }

    private static void looksIntoTheDeep() {
        Check.about("500 looks");
        for (boolean inside : new boolean[] {false, true}) {
            RelationStream x = deepPairs(inside, 9);
            Check.due("225 pairs: the last step", x.run(200, false), 1);
            Check.due("225 pairs: status", x.status(), 2);
            Check.due("225 pairs: answers", x.count(0), 1);
            for (int i = 0; i < 40; i++) {
                Check.due("the text is of pairs alone", x.text(0, 0, i), 10);
            }
            isFullNext("250 pairs", deepPairs(inside, 10));
            isFullNext("525 pairs", deepPairs(inside, 21));
            isFullNext("950 pairs", deepPairs(inside, 38));
        }
    }

    private static void looksOfEachStep() {
        Check.about("when a step comes to more than: 500 looks");
        RelationStream x = new RelationStream();
        int place = x.place(0);
        int[] whole = wholePairs(x);
        int most = x.relate(true, place, bigPair(x, whole, 499));
        int again = x.relate(true, place, place);
        ends("a step with 500 looks and one more step", x, Check.all(x, most, again), 3, 1);
        int apart = x.relate(false, place, bigPair(x, whole, 499));
        ends("two steps with 500 looks", x, Check.all(x, apart, x.relate(false, place, bigPair(x, whole, 499))), 3, 1);
    }

    private static void framesAtOnce() {
        Check.about("40 frames in all (the question's is one)");
        RelationStream x = new RelationStream();
        x.place(0);
        int again = x.call(0, 0, 0, 0);
        x.define(0, again);
        isFullBehind("39 calls", x, again, 39);
        Check.counts("40 frames", x, 0, 1, 0, 0, 40, 117, 0, 39);
        x.define(0, -1);
        Check.due("full stays full, whatever the relation gets", x.run(200, false), 0);
        Check.due("full", x.status(), 3);
        x.define(0, again);
        x.ask(again);
        x.run(39, false);
        x.define(0, -1);
        Check.due("a relation without a goal needs no frame", x.run(200, false), 1);
        Check.due("ended", x.status(), 2);
        Check.counts("ended", x, 0, 0, 0, 0, 40, 117, 0, 40);
    }

    /** Frames count that no task of the tree has any more. */
    private static void framesOneByOne() {
        Check.about("40 frames in all");
        RelationStream x = new RelationStream();
        x.place(0);
        int call = x.call(0, 0, 0, 0);
        x.define(0, x.relate(true, 0, 0));
        ends("39 calls, one after the other", x, Check.times(x, call, 39), 116, 1);
        Check.due("40 frames", x.count(4), 40);
        isFullBehind("40 calls, one after the other", x, Check.times(x, call, 40), 117);
        Check.due("40 frames", x.count(4), 40);
        ends("a few frames, after a question that was full", x, call, 2, 1);
        Check.due("2 frames", x.count(4), 2);
    }

    private static void conditionsOfOneAnswer() {
        Check.about("120 conditions in all");
        RelationStream x = new RelationStream();
        x.place(0);
        x.atom(1);
        int apart = x.relate(false, 0, 1);
        int most = Check.times(x, apart, 120);
        ends("120 conditions", x, most, 239, 1);
        Check.counts("120 conditions", x, 1, 0, 0, 0, 1, 120, 120, 239);
        Check.due("all of one answer", x.conditions(0), 120);
        isFullBehind("condition 121", x, x.combine(true, most, apart), 240);
        Check.counts("120 conditions", x, 0, 1, 0, 0, 1, 120, 120, 240);
        ends("one that is broken is none more", x, x.combine(true, most, x.relate(false, 1, 1)), 241, 0);
        Check.due("one that is broken: conditions", x.count(6), 120);
        ends("one that is decided is none more", x, x.combine(true, most, x.relate(false, 1, x.atom(2))), 241, 1);
        Check.due("one that is decided: conditions", x.count(6), 120);
    }

    /** Conditions count whatever state has them, and also those that no state has any more. */
    private static void conditionsInAll() {
        Check.about("120 conditions in all");
        RelationStream x = new RelationStream();
        x.place(0);
        x.place(1);
        x.atom(1);
        x.atom(2);
        int apart = x.relate(false, 0, 2);
        int sixty = Check.times(x, apart, 60);
        int more = x.combine(true, sixty, apart);
        ends("60 on both sides", x, x.combine(false, sixty, sixty), 239, 2);
        Check.due("60 of each answer", x.conditions(0) * 100 + x.conditions(1), 6060);
        Check.due("120 in all", x.count(6), 120);
        isFullBehind("60 and 61", x, x.combine(false, sixty, more), 240);
        Check.counts("one side has its answer", x, 1, 1, 0, 0, 1, 120, 120, 240);
        int bound = x.relate(true, 0, 3);
        ends("120 that are decided then", x, Check.all(x, sixty, sixty, bound), 241, 1);
        Check.due("none of the answer", x.conditions(0), 0);
        Check.due("120 in all the same", x.count(6), 120);
        isFullBehind("one more", x, Check.all(x, sixty, sixty, bound, x.relate(false, 1, 2)), 242);
    }

    /** An object that makes bindings, as many as are wanted, by conditions that are tried and by matches that fail. */
    private static final class Bound {
        final RelationStream x = new RelationStream();
        final int place = x.place(0);
        final int other = x.place(1);
        final int one = x.atom(1);
        final int two = x.atom(2);
        final int pair = x.pair(place, one);
        final int late = x.pair(two, two);
        final int goal;
        final int steps;

        /** 99 conditions are tried when they come and by nine SAMEs: 990 bindings; the others are made by DIFFERs. */
        Bound(int bindings) {
            int tried = Check.times(x, x.relate(false, place, one), 99);
            int again = Check.times(x, x.relate(true, one, one), 9);
            goal = Check.all(x, tried, again, Check.times(x, x.relate(false, pair, late), bindings - 990));
            steps = Check.askAndRun(x, goal);
            Check.due(bindings + " bindings: status", x.status(), 2);
            Check.counts(bindings + " bindings", x, 1, 0, 0, 0, 1, bindings, 99, steps);
        }

        void endsWith(String what, int last, int more, int answers) {
            ends(what, x, x.combine(true, goal, last), steps + 1 + more, answers);
            Check.due(what + ": bindings", x.count(5), 1000);
        }

        void isFullWith(String what, int last) {
            isFullBehind(what, x, x.combine(true, goal, last), steps + 1);
        }
    }

    private static void bindingsOneMore() {
        Check.about("1000 bindings in all (also those that are made by matching that fails or is only tried)");
        Bound most = new Bound(1000);
        RelationStream x = most.x;
        most.endsWith("a step that binds nothing", x.relate(false, most.one, most.one), 1, 0);
        most.isFullWith("one that is made", x.relate(true, most.other, most.one));
        most.isFullWith("one by a match that fails", x.relate(true, most.pair, most.late));
        most.isFullWith("one by a condition that is decided", x.relate(false, most.pair, most.late));
        most.isFullWith("one by a condition that stays", x.relate(false, most.place, most.one));
        most.isFullWith("some by conditions that are tried again", x.relate(true, most.one, most.one));
    }

    private static void bindingsUpToTheLast() {
        Check.about("1000 bindings in all (also those that are made by matching that fails or is only tried)");
        Bound less = new Bound(999);
        RelationStream x = less.x;
        less.endsWith("the last by a match that fails", x.relate(true, less.pair, less.late), 1, 0);
        less.endsWith("the last by a condition that is decided", x.relate(false, less.pair, less.late), 1, 1);
        less.endsWith("the last by a condition that stays", x.relate(false, less.place, less.one), 1, 1);
        // The SAME makes the conditions broken, so that the first one is the last that is tried.
        less.endsWith("the last by a match", x.relate(true, less.place, less.one), 1, 0);
        int two = x.relate(false, x.pair(less.place, less.other), less.late);
        less.isFullWith("two more", two);
    }

    private static void bindingsOfACall() {
        Check.about("its variables 0, 1, 2 are bound to the three terms");
        Bound fits = new Bound(997);
        int call = fits.x.call(0, fits.one, fits.one, fits.one);
        fits.x.define(0, fits.x.relate(false, fits.one, fits.two));
        fits.endsWith("a call's three bindings are the last", call, 2, 1);
        Check.due("a frame", fits.x.count(4), 2);
        fits.x.define(0, -1);
        ends("a call of nothing", fits.x, fits.x.combine(true, fits.goal, call), fits.steps + 2, 0);
        Check.due("a call of nothing: bindings", fits.x.count(5), 997);
        Bound over = new Bound(998);
        over.x.define(0, over.x.relate(false, over.one, over.two));
        over.isFullWith("a call's third is too much", over.x.call(0, over.one, over.one, over.one));
        Check.due("no frame", over.x.count(4), 1);
    }

    private static int splits(RelationStream x, int goal, int times) {
        int split = goal;
        for (int i = 0; i < times; i++) {
            split = x.combine(false, split, split);
        }
        return split;
    }

    private static void treeBySums() {
        Check.about("a tree of more than 60 tasks, sums and products together");
        RelationStream x = new RelationStream();
        x.place(0);
        x.atom(1);
        int goal = x.relate(true, 0, 1);
        int split = splits(x, goal, 6);
        isFullBehind("from 59 to 61", x, split, 29);
        Check.counts("59", x, 0, 30, 29, 0, 1, 0, 0, 29);
        isFullBehind("from 60 to 62", x, x.combine(true, split, goal), 30);
        Check.counts("60", x, 0, 30, 29, 1, 1, 0, 0, 30);
        ends("a small tree, after a question that was full", x, goal, 1, 1);
    }

    /** BOTHs within BOTHs, so many: products within products, of one task. */
    private static int chain(RelationStream x, int first, int goal, int products) {
        int chain = first;
        for (int i = 0; i < products; i++) {
            chain = x.combine(true, chain, goal);
        }
        return chain;
    }

    private static void treeByProducts() {
        Check.about("a tree of more than 60 tasks, sums and products together");
        RelationStream x = new RelationStream();
        x.place(0);
        x.atom(1);
        int goal = x.relate(true, 0, 1);
        int less = chain(x, goal, goal, 28);
        int more = x.combine(true, less, goal);
        int fits = x.combine(false, more, less);
        x.ask(fits);
        runSteps("two chains", x, 58);
        Check.counts("60 of 60", x, 0, 2, 1, 57, 1, 0, 0, 58);
        Check.due("60: it goes on", x.status(), 1);
        ends("60 and then fewer", x, fits, 58 + 30 + 29, 2);
        isFullBehind("from 60 to 61", x, x.combine(false, more, more), 58);
        Check.counts("60", x, 0, 2, 1, 57, 1, 0, 0, 58);
    }

    /** Relation 0 gets another goal before each call, so that there are 59 products of one task. */
    private static void treeOfOneTask() {
        Check.about("a tree of more than 60 tasks, sums and products together");
        RelationStream x = new RelationStream();
        x.place(0);
        x.atom(1);
        int goal = x.relate(true, 0, 1);
        int call = x.call(0, 0, 0, 0);
        int less = chain(x, call, goal, 19);
        int more = x.combine(true, less, goal);
        x.ask(more);
        runSteps("20 products", x, 20);
        x.define(0, more);
        runSteps("40 products", x, 21);
        x.define(0, less);
        runSteps("59 products", x, 20);
        Check.counts("60 of 60", x, 0, 1, 0, 59, 3, 6, 0, 61);
        x.define(0, goal);
        Check.due("to the end: a call, and a goal for each product and one", x.run(200, false), 61);
        Check.counts("ended", x, 1, 0, 0, 0, 4, 10, 0, 122);
        x.define(0, more);
        isFullBehind("60 products of one task", x, more, 61);
        Check.counts("59 products", x, 0, 1, 0, 59, 3, 6, 0, 61);
    }

    private static void answersOfOneQuestion() {
        Check.about("20 answers");
        RelationStream x = new RelationStream();
        x.place(0);
        x.atom(1);
        int goal = x.relate(true, 0, 1);
        int twenty = x.combine(false, splits(x, goal, 4), splits(x, goal, 2));
        ends("20 answers", x, twenty, 39, 20);
        Check.counts("20 answers", x, 20, 0, 0, 0, 1, 20, 0, 39);
        Check.text(x, 19, 0, 1);
        Check.refused("text of answer 20", Check.INDEX, () -> x.text(20, 0, 0));
        Check.refused("conditions of answer 20", Check.INDEX, () -> x.conditions(20));
        isFullBehind("answer 21", x, x.combine(false, twenty, goal), 40);
        Check.counts("answer 21", x, 20, 1, 0, 0, 1, 20, 0, 40);
        Check.text(x, 0, 0, 1);
        Check.text(x, 19, 0, 1);
        Check.due("conditions of answer 19", x.conditions(19), 0);
        ends("one answer, after a question that was full", x, goal, 1, 1);
        Check.refused("text of answer 1", Check.INDEX, () -> x.text(1, 0, 0));
    }

    /** With 20 answers a question goes on till there is one more; a product's own answers are none of them. */
    private static void stepsBehindAnswer20() {
        Check.about("or 20 answers");
        RelationStream x = new RelationStream();
        x.place(0);
        x.atom(1);
        x.atom(2);
        int goal = x.relate(true, 0, 1);
        int never = x.relate(true, 1, 2);
        int twenty = x.combine(false, splits(x, goal, 4), splits(x, goal, 2));
        int slow = Check.times(x, goal, 25);
        x.ask(x.combine(false, twenty, x.combine(true, slow, never)));
        runSteps("20 answers", x, 80);
        Check.due("20 answers", x.count(0), 20);
        Check.due("20 answers: it goes on", x.status(), 1);
        Check.due("steps without an answer", x.run(200, true), 11);
        Check.due("steps without an answer: ended", x.status(), 2);
        isFullBehind("answer 21, late", x, x.combine(false, twenty, x.combine(true, slow, goal)), 90);
        Check.counts("answer 21, late", x, 20, 1, 0, 0);
        int more = x.combine(false, splits(x, goal, 4), splits(x, goal, 3));
        ends("24 answers of a product's tree", x, x.combine(true, more, never), 72, 0);
    }

    private static void suchAStep() {
        Check.about("such a step does not count, and gives no answer");
        RelationStream x = Check.withPlacesAndAtoms();
        int again = x.call(0, 0, 0, 0);
        x.define(0, again);
        int first = Check.all(x, x.relate(false, 1, 7), x.relate(true, 0, x.pair(1, 8)));
        int goal = x.combine(false, first, again);
        x.ask(goal);
        runSteps("a call without end", x, 43);
        String before = Check.seen(x);
        Check.due("it goes on", x.status(), 1);
        Check.due("the step that is too much", x.run(1, false), 0);
        String full = before.replace("status 1", "status 3");
        Check.unchanged("when it is full", full, x);
        Check.due("no more steps", x.run(200, true), 0);
        Check.unchanged("after that", full, x);
        Check.refusedInVain(x, "run(201, true)", Check.ARGUMENT, () -> x.run(201, true));
        Check.refusedInVain(x, "ask(40)", Check.ARGUMENT, () -> x.ask(40));
        Check.refusedInVain(x, "text(1, 0, 0)", Check.INDEX, () -> x.text(1, 0, 0));
        x.ask(goal);
        Check.due("till the answer", x.run(200, true), 6);
        Check.due("the steps before the one that is too much", x.run(200, true), 37);
        Check.unchanged("when it is full", full, x);
    }

    public static void main(String[] args) {
        looksOfMatching();
        looksOfDiffer();
        looksOfWhatFails();
        looksTillItIsFound();
        looksAtConditions();
        looksIntoTheDeep();
        looksOfEachStep();
        framesAtOnce();
        framesOneByOne();
        conditionsOfOneAnswer();
        conditionsInAll();
        bindingsOneMore();
        bindingsUpToTheLast();
        bindingsOfACall();
        treeBySums();
        treeByProducts();
        treeOfOneTask();
        answersOfOneQuestion();
        stepsBehindAnswer20();
        suchAStep();
        Check.end();
    }
}
