/** What makes a question full: looks, frames, bindings, conditions, the tree, answers; each at its edge and one beyond. */
public final class LimitsTest {
    private LimitsTest() {
    }

    /** A pair with so many parts in all (an odd number), of one atom: from the halves that are made already. */
    private static int bigPair(RelationStream x, int[] whole, int parts) {
        int term = whole[0];
        int size = 1;
        for (int d = 8; d >= 0; d--) {
            int more = (2 << d) - 1;
            while (size + 1 + more <= parts) {
                term = x.pair(term, whole[d]);
                size += 1 + more;
            }
        }
        Check.due("parts of a pair", size, parts);
        return term;
    }

    /** Trees of pairs: the one of depth d has 2 * 2^d - 1 parts. */
    private static int[] wholePairs(RelationStream x) {
        int[] whole = new int[9];
        whole[0] = x.atom(5);
        for (int d = 1; d < whole.length; d++) {
            whole[d] = x.pair(whole[d - 1], whole[d - 1]);
        }
        return whole;
    }

    private static void looks() {
        RelationStream x = new RelationStream();
        int place = x.place(0);
        int[] whole = wholePairs(x);
        int less = bigPair(x, whole, 499);
        int more = bigPair(x, whole, 501);
        x.ask(x.relate(true, less, less));
        Check.due("499 looks", x.run(5, false), 1);
        Check.due("499 looks: an answer", x.count(0), 1);
        int occurs = x.relate(true, place, less);
        x.ask(occurs);
        Check.due("500 looks, with those for what occurs", x.run(5, false), 1);
        Check.due("500 looks: an answer", x.count(0), 1);
        Check.due("500 looks: ended", x.status(), 2);
        x.ask(x.relate(true, less, place));
        Check.due("500 looks the other way round", x.run(5, false), 1);
        x.ask(x.relate(true, more, more));
        Check.due("501 looks", x.run(5, false), 0);
        Check.due("501 looks: full", x.status(), 3);
        Check.counts("501 looks: nothing counts", x, 0, 1, 0, 0, 1, 0, 0, 0);
        Check.due("no more steps", x.run(5, false), 0);
        x.ask(x.relate(true, place, more));
        Check.due("502 looks", x.run(5, false), 0);
        Check.due("502 looks: full", x.status(), 3);
        x.ask(x.relate(false, more, more));
        Check.due("501 looks of DIFFER", x.run(5, false), 0);
        Check.due("501 looks of DIFFER: full", x.status(), 3);
        x.ask(x.combine(true, occurs, occurs));
        Check.due("each step has looks of its own", x.run(9, false), 3);
        Check.due("each step has looks of its own: ended", x.status(), 2);
    }

    /** A match and the conditions that are looked at after it are one step. */
    private static void looksAtConditions() {
        RelationStream x = new RelationStream();
        int place = x.place(0);
        int atom = x.atom(1);
        int[] whole = wholePairs(x);
        int most = bigPair(x, whole, 495);
        int apart = x.relate(false, place, atom);
        int same = x.relate(true, most, most);
        int two = x.combine(true, apart, apart);
        x.ask(x.combine(true, two, same));
        Check.due("495 looks and two conditions of two", x.run(9, false), 5);
        Check.due("499 looks: ended", x.status(), 2);
        int three = x.combine(true, two, apart);
        x.ask(x.combine(true, three, same));
        Check.due("495 looks and three conditions of two", x.run(9, false), 6);
        Check.due("501 looks: full", x.status(), 3);
        Check.counts("as the step before left it", x, 0, 1, 0, 0, 1, 3, 3, 6);
    }

    /** A place occurs in the last part, so that all parts before it are looked at, and nothing behind it. */
    private static void looksTillItIsFound() {
        RelationStream x = new RelationStream();
        int place = x.place(0);
        int[] whole = wholePairs(x);
        int early = x.pair(place, whole[8]);
        int late = x.pair(whole[8], place);
        x.ask(x.relate(true, place, early));
        Check.due("found early", x.run(5, false), 1);
        Check.due("found early: ended", x.status(), 2);
        Check.counts("found early: no binding", x, 0, 0, 0, 0, 1, 0, 0, 1);
        x.ask(x.relate(true, place, late));
        Check.due("found too late", x.run(5, false), 0);
        Check.due("found too late: full", x.status(), 3);
    }

    private static void frames() {
        RelationStream x = new RelationStream();
        x.place(0);
        int again = x.call(0, 0, 0, 0);
        x.define(0, again);
        x.ask(again);
        Check.due("39 calls", x.run(39, false), 39);
        Check.due("39 calls: it goes on", x.status(), 1);
        Check.due("the 40th is too much", x.run(1, false), 0);
        Check.due("full", x.status(), 3);
        Check.counts("full", x, 0, 1, 0, 0, 40, 117, 0, 39);
        x.define(0, -1);
        Check.due("full stays full", x.run(1, false), 0);
        x.define(0, again);
        x.ask(again);
        x.run(39, false);
        x.define(0, -1);
        Check.due("a relation without a goal needs no frame", x.run(1, false), 1);
        Check.due("ended", x.status(), 2);
        Check.counts("ended", x, 0, 0, 0, 0, 40, 117, 0, 40);
    }

    /** Goals that do one goal 1, 2, 4, .. times. */
    private static int[] doubled(RelationStream x, int goal, int times) {
        int[] goals = new int[times];
        goals[0] = goal;
        for (int i = 1; i < times; i++) {
            goals[i] = x.combine(true, goals[i - 1], goals[i - 1]);
        }
        return goals;
    }

    private static int runToTheEnd(RelationStream x) {
        int steps = 0;
        for (int i = 0; i < 50; i++) {
            steps += x.run(200, false);
        }
        return steps;
    }

    private static void conditions() {
        RelationStream x = new RelationStream();
        x.place(0);
        x.atom(1);
        int[] apart = doubled(x, x.relate(false, 0, 1), 7);
        int most = x.combine(true, x.combine(true, apart[6], apart[5]), x.combine(true, apart[4], apart[3]));
        x.ask(most);
        Check.due("steps to 120 conditions", runToTheEnd(x), 239);
        Check.due("120 conditions: ended", x.status(), 2);
        Check.counts("120 conditions", x, 1, 0, 0, 0, 1, 120, 120, 239);
        Check.due("all of one answer", x.conditions(0), 120);
        x.ask(x.combine(true, most, apart[0]));
        Check.due("steps before condition 121", runToTheEnd(x), 240);
        Check.due("121 conditions: full", x.status(), 3);
        Check.counts("121 conditions", x, 0, 1, 0, 0, 1, 120, 120, 240);
        int broken = x.relate(false, 1, 1);
        x.ask(x.combine(true, most, broken));
        Check.due("what is broken is no condition more", runToTheEnd(x), 241);
        Check.due("what is broken: ended", x.status(), 2);
    }

    /** 100 conditions, each tried once when it came and once by each of nine SAMEs: 1000 bindings. */
    private static void bindings() {
        RelationStream x = new RelationStream();
        x.place(0);
        x.atom(1);
        int[] apart = doubled(x, x.relate(false, 0, 1), 7);
        int hundred = x.combine(true, x.combine(true, apart[6], apart[5]), apart[2]);
        int[] same = doubled(x, x.relate(true, 1, 1), 4);
        int most = x.combine(true, hundred, x.combine(true, same[3], same[0]));
        x.ask(most);
        int steps = runToTheEnd(x);
        Check.due("1000 bindings: ended", x.status(), 2);
        Check.counts("1000 bindings", x, 1, 0, 0, 0, 1, 1000, 100, steps);
        int bind = x.relate(true, 0, 1);
        x.ask(x.combine(true, most, bind));
        Check.due("steps before binding 1001", runToTheEnd(x), steps + 1);
        Check.due("1001 bindings: full", x.status(), 3);
        Check.counts("1001 bindings", x, 0, 1, 0, 0, 1, 1000, 100, steps + 1);
        x.ask(x.combine(true, most, apart[0]));
        runToTheEnd(x);
        Check.due("1001 bindings by one that is only tried: full", x.status(), 3);
        int nothing = x.relate(false, 1, 1);
        x.ask(x.combine(true, most, nothing));
        Check.due("a step that binds nothing", runToTheEnd(x), steps + 2);
        Check.due("a step that binds nothing: ended", x.status(), 2);
        int enter = x.call(0, 0, 0, 0);
        x.define(0, nothing);
        x.ask(x.combine(true, most, enter));
        Check.due("steps before a call's bindings", runToTheEnd(x), steps + 1);
        Check.due("a call's bindings: full", x.status(), 3);
        Check.counts("a call's bindings: no frame", x, 0, 1, 0, 0, 1, 1000, 100, steps + 1);
    }

    private static void tree() {
        RelationStream x = new RelationStream();
        x.place(0);
        x.atom(1);
        int goal = x.relate(true, 0, 1);
        int split = goal;
        for (int i = 0; i < 6; i++) {
            split = x.combine(false, split, split);
        }
        x.ask(split);
        Check.due("each step splits a task: 59", x.run(200, false), 29);
        Check.due("61 tasks and sums: full", x.status(), 3);
        Check.counts("59 tasks and sums", x, 0, 30, 29, 0, 1, 0, 0, 29);
        int product = x.combine(true, split, goal);
        x.ask(product);
        Check.due("with a product: 60", x.run(200, false), 30);
        Check.due("62 tasks, sums and products: full", x.status(), 3);
        Check.counts("60 tasks, sums and products", x, 0, 30, 29, 1, 1, 0, 0, 30);
    }

    /** Two chains of products that grow by one in turn, up to 60 and to 61. */
    private static void treeByOne() {
        RelationStream x = new RelationStream();
        x.place(0);
        x.atom(1);
        int goal = x.relate(true, 0, 1);
        int chain = goal;
        for (int i = 0; i < 30; i++) {
            chain = x.combine(true, chain, goal);
        }
        x.ask(x.combine(false, chain, chain));
        Check.due("steps to 60 tasks, sums and products", x.run(58, false), 58);
        Check.due("60: it goes on", x.status(), 1);
        Check.due("61", x.run(1, false), 0);
        Check.due("61: full", x.status(), 3);
        Check.counts("as the step before left it", x, 0, 2, 1, 57, 1, 0, 0, 58);
    }

    private static void answers() {
        RelationStream x = new RelationStream();
        x.place(0);
        x.atom(1);
        int goal = x.relate(true, 0, 1);
        int split = goal;
        for (int i = 0; i < 4; i++) {
            split = x.combine(false, split, split);
        }
        int four = goal;
        for (int i = 0; i < 2; i++) {
            four = x.combine(false, four, four);
        }
        int twenty = x.combine(false, split, four);
        x.ask(twenty);
        x.run(200, false);
        Check.due("20 answers: ended", x.status(), 2);
        Check.counts("20 answers", x, 20, 0, 0, 0, 1, 20, 0, 39);
        Check.text(x, 19, 0, 1);
        Check.refused("answer 20", Check.INDEX, () -> x.text(20, 0, 0));
        Check.refused("conditions of answer 20", Check.INDEX, () -> x.conditions(20));
        x.ask(x.combine(false, twenty, goal));
        Check.due("steps before answer 21", x.run(200, false), 40);
        Check.due("21 answers: full", x.status(), 3);
        Check.counts("21 answers", x, 20, 1, 0, 0, 1, 20, 0, 40);
        Check.due("no more steps", x.run(200, true), 0);
        x.ask(goal);
        Check.due("a new question is not full", x.status(), 1);
        Check.due("a new question runs", x.run(200, true), 1);
        Check.due("a new question ends", x.status(), 2);
    }

    public static void main(String[] args) {
        looks();
        looksAtConditions();
        looksTillItIsFound();
        frames();
        conditions();
        bindings();
        tree();
        treeByOne();
        answers();
        Check.end();
    }
}
