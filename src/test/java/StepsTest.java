/** Promises 9 to 12: ask, run, status and count, and what one step after the other does to the tree. */
public final class StepsTest {
    private StepsTest() {
    }

    private static void questions() {
        RelationStream x = Check.withPlacesAndAtoms();
        int same = x.relate(true, 0, 7);
        int never = x.relate(true, 6, 7);
        x.ask(same);
        Check.due("asked", x.status(), 1);
        Check.counts("asked", x, 0, 1, 0, 0, 1, 0, 0, 0);
        Check.refused("run(201)", Check.ARGUMENT, () -> x.run(201, false));
        Check.refused("run(-1)", Check.ARGUMENT, () -> x.run(-1, true));
        Check.due("run(0)", x.run(0, false), 0);
        Check.counts("after no step", x, 0, 1, 0, 0, 1, 0, 0, 0);
        Check.due("run(200)", x.run(200, false), 1);
        Check.due("ended", x.status(), 2);
        Check.counts("ended", x, 1, 0, 0, 0, 1, 1, 0, 1);
        Check.due("run after the end", x.run(5, true), 0);
        Check.refusedAction("a wrong question", Check.ARGUMENT, () -> x.ask(40));
        Check.counts("the question before is still there", x, 1, 0, 0, 0, 1, 1, 0, 1);
        x.ask(never);
        Check.refused("its answers are gone", Check.INDEX, () -> x.text(0, 0, 0));
        Check.counts("asked again", x, 0, 1, 0, 0, 1, 0, 0, 0);
        Check.due("a match that fails", x.run(3, true), 1);
        Check.due("ended", x.status(), 2);
        Check.counts("failed", x, 0, 0, 0, 0, 1, 0, 0, 1);
    }

    private static void choices() {
        RelationStream x = Check.withPlacesAndAtoms();
        int one = x.relate(true, 0, 7);
        int two = x.relate(true, 0, 8);
        int three = x.relate(true, 0, 9);
        int left = x.combine(false, one, two);
        int all = x.combine(false, left, three);
        x.ask(all);
        x.run(1, true);
        Check.counts("a sum of two tasks", x, 0, 2, 1, 0);
        x.run(1, true);
        Check.counts("a sum of a task and a sum", x, 0, 3, 2, 0);
        Check.due("till an answer", x.run(9, true), 1);
        Check.text(x, 0, 0, 3);
        Check.counts("the second tree is left", x, 1, 2, 1, 0);
        Check.due("till an answer", x.run(9, true), 1);
        Check.text(x, 1, 0, 1);
        Check.due("to the end", x.run(9, true), 1);
        Check.text(x, 2, 0, 2);
        Check.counts("ended", x, 3, 0, 0, 0, 1, 3, 0, 5);
        int turned = x.combine(false, one, left);
        x.ask(turned);
        Check.due("the first, then the split, then its parts", x.run(200, false), 5);
        Check.text(x, 0, 0, 1);
        Check.text(x, 1, 0, 1);
        Check.text(x, 2, 0, 2);
    }

    private static void products() {
        RelationStream x = Check.withPlacesAndAtoms();
        int either = x.combine(false, x.relate(true, 0, 7), x.relate(true, 0, 8));
        int other = x.combine(false, x.relate(true, 1, 7), x.relate(true, 1, 8));
        int pair = x.pair(1, 2);
        int same = x.relate(true, 0, pair);
        int both = x.combine(true, either, other);
        x.ask(both);
        x.run(1, false);
        Check.counts("BOTH", x, 0, 1, 0, 1);
        x.run(1, false);
        Check.counts("a product of a sum", x, 0, 2, 1, 1);
        Check.due("a product gives no answer", x.run(1, true), 1);
        Check.counts("a sum of the goal's task and the product", x, 0, 2, 1, 1, 1, 1, 0, 3);
        x.run(1, false);
        Check.counts("the task became a sum and went behind", x, 0, 3, 2, 1);
        x.run(1, false);
        Check.counts("the product became its goal's task", x, 0, 3, 2, 0);
        Check.due("to the end", x.run(200, false), 5);
        Check.counts("ended", x, 4, 0, 0, 0, 1, 6, 0, 10);
        x.ask(x.combine(true, same, x.relate(true, 0, 7)));
        Check.due("the second fails", x.run(200, false), 3);
        Check.counts("no answer", x, 0, 0, 0, 0, 1, 1, 0, 3);
        x.ask(x.combine(true, x.relate(true, 6, 7), either));
        Check.due("the first fails: nothing is left", x.run(200, false), 2);
        Check.counts("nothing is left", x, 0, 0, 0, 0, 1, 0, 0, 2);
    }

    private static void calls() {
        RelationStream x = Check.withPlacesAndAtoms();
        int list = x.pair(1, 2);
        int goal = x.relate(true, 0, list);
        x.define(1, goal);
        int swapped = x.call(1, 0, 7, 8);
        x.ask(swapped);
        x.run(1, false);
        Check.counts("a frame and three bindings", x, 0, 1, 0, 0, 2, 3, 0, 1);
        x.run(1, false);
        Check.text(x, 0, 0, 10, 1, 2);
        Check.counts("ended", x, 1, 0, 0, 0, 2, 4, 0, 2);
        int own = x.relate(true, 0, x.pair(3, 0));
        x.define(2, own);
        x.ask(x.call(2, 1, 1, 1));
        Check.due("place 0 is the caller's, which occurs", x.run(9, true), 2);
        Check.counts("it fails", x, 0, 0, 0, 0, 2, 3, 0, 2);
        int fresh = x.relate(true, 0, x.pair(3, 4));
        x.define(3, fresh);
        x.ask(x.combine(true, x.call(3, 0, 6, 6), x.call(3, 3, 6, 6)));
        x.run(50, false);
        Check.text(x, 0, 0, 10, 20, 21);
        Check.due("frames", x.count(4), 3);
        int deep = x.relate(true, 1, 7);
        x.define(0, deep);
        x.ask(x.combine(true, x.relate(true, 0, 4), x.call(0, 6, 4, 6)));
        x.run(50, false);
        Check.text(x, 0, 0, 1);
    }

    /** Bindings that are made by matching that fails, or is only tried, count; conditions that are decided do not. */
    private static void whatCounts() {
        RelationStream x = Check.withPlacesAndAtoms();
        int left = x.pair(0, 7);
        int right = x.pair(8, 9);
        x.ask(x.relate(true, left, right));
        x.run(1, false);
        Check.counts("a match that fails late", x, 0, 0, 0, 0, 1, 1, 0, 1);
        x.ask(x.relate(false, left, right));
        x.run(1, false);
        Check.counts("a condition that is decided", x, 1, 0, 0, 0, 1, 1, 0, 1);
        Check.due("it is not kept", x.conditions(0), 0);
        int apart = x.relate(false, 0, 7);
        x.ask(apart);
        x.run(1, false);
        Check.counts("a condition", x, 1, 0, 0, 0, 1, 1, 1, 1);
        x.ask(x.relate(false, 7, 7));
        x.run(1, false);
        Check.counts("a condition that is broken", x, 0, 0, 0, 0, 1, 0, 0, 1);
        x.ask(x.combine(true, apart, x.relate(true, 1, 7)));
        x.run(9, false);
        Check.counts("a condition is tried again by SAME", x, 1, 0, 0, 0, 1, 3, 1, 3);
        x.ask(x.combine(true, apart, x.relate(true, 0, 7)));
        x.run(9, false);
        Check.counts("and may be broken", x, 0, 0, 0, 0, 1, 2, 1, 3);
        x.ask(x.combine(true, apart, x.relate(false, 1, 7)));
        x.run(9, false);
        Check.counts("DIFFER leaves the others alone", x, 1, 0, 0, 0, 1, 2, 2, 3);
    }

    /** Conditions are looked at in their order, till one is broken: the bindings that are tried tell. */
    private static void tillOneIsBroken() {
        RelationStream x = Check.withPlacesAndAtoms();
        int first = x.relate(false, 0, 7);
        int second = x.relate(false, 1, 7);
        int break0 = x.relate(true, 0, 7);
        int break1 = x.relate(true, 1, 7);
        int set = x.combine(true, first, second);
        x.ask(x.combine(true, set, break0));
        x.run(9, false);
        Check.counts("the first is broken, the second not looked at", x, 0, 0, 0, 0, 1, 3, 2);
        x.ask(x.combine(true, set, break1));
        x.run(9, false);
        Check.counts("the first was looked at", x, 0, 0, 0, 0, 1, 4, 2);
    }

    /** Both sides of a choice come to their turn, however long the one goes on. */
    private static void noSideWaits() {
        RelationStream x = Check.withPlacesAndAtoms();
        int again = x.call(0, 0, 0, 0);
        x.define(0, again);
        x.ask(x.combine(false, again, x.relate(true, 0, 7)));
        Check.due("an answer beside a call without end", x.run(200, true), 3);
        Check.due("it goes on", x.status(), 1);
        Check.text(x, 0, 0, 1);
    }

    public static void main(String[] args) {
        questions();
        choices();
        products();
        calls();
        whatCounts();
        tillOneIsBroken();
        noSideWaits();
        Check.end();
    }
}
