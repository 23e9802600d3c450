/** The section Terms: what a step of a task, a sum and a product leaves, and what is left when it leaves nothing. */
public final class StepsTest {
    private StepsTest() {
    }

    /** Does so many steps, none of which gives an answer, and looks at tasks, sums and products. */
    private static void after(String what, RelationStream x, int steps, int tasks, int sums, int products) {
        int answers = x.count(0);
        Check.due(what + ": steps", x.run(steps, true), steps);
        Check.counts(what, x, answers, tasks, sums, products);
    }

    private static void eitherIsASum() {
        Check.about("EITHER: a sum of the tasks of the two goals is left.");
        RelationStream x = Check.withPlacesAndAtoms();
        x.ask(x.combine(false, x.relate(true, 0, 7), x.relate(true, 0, 8)));
        after("a sum", x, 1, 2, 1, 0);
        Check.due("the first goal first", x.run(1, true), 1);
        Check.text(x, 0, 0, 1);
        Check.due("then the second", x.run(1, true), 1);
        Check.text(x, 1, 0, 2);
        Check.counts("each with the state that there was", x, 2, 0, 0, 0, 1, 2, 0, 3);
    }

    private static void sidesHaveTheirOwnStates() {
        Check.about("A TREE is a TASK (a goal, a frame, a state)");
        RelationStream x = Check.withPlacesAndAtoms();
        int one = x.relate(true, 0, 7);
        int apart = x.relate(false, 0, 7);
        x.define(0, x.relate(true, 0, 8));
        int call = x.call(0, 0, 6, 6);
        Check.askAndRun(x, x.combine(false, one, call));
        Check.text(x, 0, 0, 1);
        Check.text(x, 1, 0, 2);
        Check.askAndRun(x, x.combine(false, apart, one));
        Check.due("a condition", x.conditions(0), 1);
        Check.text(x, 1, 0, 1);
        Check.due("none of the other side", x.conditions(1), 0);
        Check.askAndRun(x, x.combine(false, one, apart));
        Check.text(x, 1, 0, 20);
        Check.due("a condition, and no binding of the other side", x.conditions(1), 1);
        Check.askAndRun(x, x.combine(false, apart, x.relate(false, 1, 8)));
        Check.text(x, 1, 1, 21);
        Check.due("no condition of the other side", x.conditions(1), 1);
    }

    private static void bothIsAProduct() {
        Check.about("BOTH: a product of the task of the first goal and the second goal.");
        RelationStream x = Check.withPlacesAndAtoms();
        int pair = x.pair(1, 7);
        x.ask(x.combine(true, x.relate(true, 0, pair), x.relate(true, 1, 8)));
        after("a product", x, 1, 1, 0, 1);
        after("the first goal's answer goes to the second", x, 1, 1, 0, 0);
        Check.due("the last step", x.run(1, true), 1);
        Check.text(x, 0, 0, 10, 2, 1);
        Check.counts("ended", x, 1, 0, 0, 0, 1, 2, 0, 3);
    }

    private static void callMakesAFrame() {
        Check.about("CALL: a new frame; its variables 0, 1, 2 are bound to the three terms; the task of the relation's "
                + "goal is left");
        RelationStream x = Check.withPlacesAndAtoms();
        int row = x.pair(0, x.pair(1, 2));
        x.define(1, x.relate(true, 1, row));
        x.ask(x.call(1, 7, 0, 8));
        after("a task", x, 1, 1, 0, 0);
        Check.counts("a frame and three bindings", x, 0, 1, 0, 0, 2, 3, 0, 1);
        Check.due("place 1 occurs in the row", x.run(200, false), 1);
        Check.due("so that there is no answer", x.count(0), 0);
        x.define(1, x.relate(true, 0, x.pair(1, x.pair(2, 6))));
        Check.askAndRun(x, x.call(1, 0, 8, 9));
        Check.text(x, 0, 0, 10, 2, 10, 3, 0);
        Check.askAndRun(x, x.call(1, 0, 4, x.pair(4, 5)));
        Check.text(x, 0, 0, 10, 20, 10, 10, 20, 21, 0);
        Check.counts("four bindings", x, 1, 0, 0, 0, 2, 4, 0, 2);
    }

    private static void sixVariables() {
        Check.about("Where a goal is used there are six VARIABLES that its terms' places 0 .. 5 stand for (its FRAME).");
        RelationStream x = Check.withPlacesAndAtoms();
        int row = x.pair(3, x.pair(4, 5));
        int fresh = x.relate(true, 0, row);
        x.define(0, fresh);
        int first = x.call(0, 1, 6, 6);
        int second = x.call(0, 2, 6, 6);
        int whole = x.relate(true, 0, x.pair(row, x.pair(1, 2)));
        Check.askAndRun(x, Check.all(x, first, second, whole));
        Check.text(x, 0, 0, 10, 10, 20, 10, 21, 22, 10, 10, 23, 10, 24, 25, 10, 26, 10, 27, 28);
        Check.due("a frame for each call, and the question's", x.count(4), 3);
        Check.askAndRun(x, Check.all(x, fresh, x.relate(true, 5, 9)));
        Check.text(x, 0, 0, 10, 20, 10, 21, 3);
        Check.due("BOTH stays in its frame", x.count(4), 1);
    }

    private static void callOfNothing() {
        Check.about("(nothing, and no new frame, if it has none)");
        RelationStream x = Check.withPlacesAndAtoms();
        int call = x.call(2, 0, 0, 0);
        int goal = x.relate(true, 0, 7);
        Check.due("alone: steps", Check.askAndRun(x, call), 1);
        Check.due("alone: status", x.status(), 2);
        Check.counts("alone", x, 0, 0, 0, 0, 1, 0, 0, 1);
        int either = x.combine(false, call, goal);
        x.ask(either);
        after("a sum leaves its second tree", x, 2, 1, 0, 0);
        Check.counts("no frame, no bindings", x, 0, 1, 0, 0, 1, 0, 0, 2);
        Check.due("which goes on", x.run(200, false), 1);
        Check.text(x, 0, 0, 1);
        Check.due("a product leaves nothing", Check.askAndRun(x, x.combine(true, call, goal)), 2);
        Check.counts("a product", x, 0, 0, 0, 0, 1, 0, 0, 2);
        x.define(2, goal);
        Check.due("with a goal: steps", Check.askAndRun(x, call), 2);
        Check.counts("with a goal", x, 1, 0, 0, 0, 2, 4, 0, 2);
    }

    private static void sumWhoseFirstLeavesNothing() {
        Check.about("SUM: a step of its first tree; if that leaves nothing, the second tree is left");
        RelationStream x = Check.withPlacesAndAtoms();
        int one = x.relate(true, 0, 7);
        int never = x.relate(true, 6, 7);
        int apart = x.relate(false, 7, 7);
        int rest = x.combine(true, one, one);
        for (int goal : new int[] {never, apart}) {
            x.ask(x.combine(false, goal, rest));
            after("without an answer", x, 2, 1, 0, 0);
            after("the second tree does its step", x, 1, 1, 0, 1);
        }
        x.ask(x.combine(false, one, rest));
        Check.due("with an answer", x.run(200, true), 2);
        Check.counts("with an answer", x, 1, 1, 0, 0);
        after("the second tree does its step", x, 1, 1, 0, 1);
        Check.due("to the end", x.run(200, false), 2);
        Check.due("both have their answers", x.count(0), 2);
    }

    private static void sumWhoseFirstGoesOn() {
        Check.about("else a sum of the second tree and what was left, in this order; its answer is that of the step");
        RelationStream x = Check.withPlacesAndAtoms();
        int one = x.relate(true, 0, 7);
        int two = x.relate(true, 0, 8);
        int three = x.relate(true, 0, 9);
        int left = x.combine(false, one, two);
        x.ask(x.combine(false, left, three));
        after("the first tree is split", x, 2, 3, 2, 0);
        Check.due("the second tree's turn", x.run(200, true), 1);
        Check.text(x, 0, 0, 3);
        Check.counts("what was left", x, 1, 2, 1, 0);
        Check.due("it goes on", x.run(200, true), 1);
        Check.text(x, 1, 0, 1);
        Check.due("to its end", x.run(200, true), 1);
        Check.text(x, 2, 0, 2);
        Check.counts("ended", x, 3, 0, 0, 0, 1, 3, 0, 5);
        x.ask(x.combine(false, x.combine(false, left, left), x.combine(false, three, three)));
        after("three splits, in turn", x, 3, 4, 3, 0);
        int[] told = {3, 3, 1, 1, 2, 2};
        x.run(200, false);
        for (int i = 0; i < told.length; i++) {
            Check.text(x, i, 0, told[i]);
        }
    }

    private static void productWithoutAnAnswer() {
        Check.about("Without an answer: if that leaves nothing, nothing is left; else a product of what was left and "
                + "the goal.");
        RelationStream x = Check.withPlacesAndAtoms();
        int one = x.relate(true, 0, 7);
        int never = x.relate(true, 6, 7);
        Check.due("nothing is left", Check.askAndRun(x, x.combine(true, never, one)), 2);
        Check.due("nothing is left: status", x.status(), 2);
        Check.counts("nothing is left", x, 0, 0, 0, 0, 1, 0, 0, 2);
        x.ask(x.combine(true, x.combine(false, never, one), one));
        after("a product of a sum", x, 2, 2, 1, 1);
        after("a product of what was left", x, 1, 1, 0, 1);
        after("then the goal's task", x, 1, 1, 0, 0);
        Check.due("and its answer", x.run(200, true), 1);
        Check.due("one answer", x.count(0), 1);
        x.ask(x.combine(true, x.combine(true, never, one), one));
        after("a product of a product", x, 2, 1, 0, 2);
        after("nothing is left of both", x, 1, 0, 0, 0);
        Check.due("ended", x.status(), 2);
    }

    private static void productWithAnAnswer() {
        Check.about("With an answer: the task of the goal with that state, and, if that leaves a tree, a sum of that "
                + "task and a product of what was left and the goal.");
        RelationStream x = Check.withPlacesAndAtoms();
        int either = x.combine(false, x.relate(true, 0, 7), x.relate(true, 0, 8));
        int other = x.combine(false, x.relate(true, 1, 7), x.relate(true, 1, 8));
        x.ask(x.combine(true, x.relate(true, 0, 7), other));
        after("nothing was left: the goal's task", x, 2, 1, 0, 0);
        Check.due("two answers", x.run(200, false), 3);
        Check.counts("two answers", x, 2, 0, 0, 0, 1, 3, 0, 5);
        x.ask(x.combine(true, either, other));
        after("a product of a sum", x, 2, 2, 1, 1);
        after("a tree was left: a sum of the task and the product", x, 1, 2, 1, 1);
        after("the task comes first and becomes a sum, which goes behind", x, 1, 3, 2, 1);
        after("the product becomes its goal's task", x, 1, 3, 2, 0);
        Check.due("to the end", x.run(200, false), 5);
        Check.counts("each answer with each", x, 4, 0, 0, 0, 1, 6, 0, 10);
        int[] told = {1, 1, 2, 2};
        for (int i = 0; i < told.length; i++) {
            Check.text(x, i, 0, told[i]);
        }
    }

    private static void productGivesNoAnswer() {
        Check.about("(A product never gives an answer.)");
        RelationStream x = Check.withPlacesAndAtoms();
        int one = x.relate(true, 0, 7);
        x.ask(x.combine(true, one, x.relate(true, 1, 8)));
        after("its tree's answer is none of the question's", x, 2, 1, 0, 0);
        Check.due("the goal's is", x.run(200, true), 1);
        Check.counts("one answer", x, 1, 0, 0, 0, 1, 2, 0, 3);
        Check.due("the goal fails", Check.askAndRun(x, x.combine(true, one, x.relate(true, 6, 7))), 3);
        Check.counts("the goal fails", x, 0, 0, 0, 0, 1, 1, 0, 3);
        x.ask(x.combine(true, x.combine(true, one, one), one));
        after("the inner product's answer goes to the inner goal alone", x, 3, 1, 0, 1);
        after("then to the outer goal", x, 1, 1, 0, 0);
    }

    private static void noSideWaits() {
        Check.about("in turn on both sides of a choice, so that no side waits for ever");
        RelationStream x = Check.withPlacesAndAtoms();
        int again = x.call(0, 0, 0, 0);
        x.define(0, again);
        int goal = x.relate(true, 0, 7);
        x.ask(x.combine(false, again, goal));
        Check.due("an answer beside a call without end", x.run(200, true), 3);
        Check.text(x, 0, 0, 1);
        x.ask(x.combine(false, goal, again));
        Check.due("and on the other side", x.run(200, true), 2);
        Check.due("it goes on", x.status(), 1);
        x.ask(x.combine(false, again, x.combine(false, again, goal)));
        Check.due("between two calls without end", x.run(200, true), 7);
        Check.due("it goes on", x.status(), 1);
    }

    public static void main(String[] args) {
        eitherIsASum();
        sidesHaveTheirOwnStates();
        bothIsAProduct();
        callMakesAFrame();
        sixVariables();
        callOfNothing();
        sumWhoseFirstLeavesNothing();
        sumWhoseFirstGoesOn();
        productWithoutAnAnswer();
        productWithAnAnswer();
        productGivesNoAnswer();
        noSideWaits();
        Check.end();
    }
}
