/** Promises 1 to 8: a new object, and what makes terms, goals and relations. */
public final class MakingTest {
    private MakingTest() {
    }

    private static void newObject() {
        RelationStream x = new RelationStream();
        Check.due("status of a new object", x.status(), 0);
        Check.counts("new object", x, 0, 0, 0, 0, 0, 0, 0, 0);
        Check.refused("count(-1)", Check.INDEX, () -> x.count(-1));
        Check.refused("count(8)", Check.INDEX, () -> x.count(8));
        Check.refused("text without a question", Check.INDEX, () -> x.text(0, 0, 0));
        Check.refused("conditions without a question", Check.INDEX, () -> x.conditions(0));
        Check.refused("run without a question", Check.STATE, () -> x.run(0, false));
        Check.refused("run(-1) without a question", Check.ARGUMENT, () -> x.run(-1, false));
        Check.refused("run(201) without a question", Check.ARGUMENT, () -> x.run(201, true));
        Check.refusedAction("ask without goals", Check.ARGUMENT, () -> x.ask(0));
        Check.refusedAction("define without goals", Check.ARGUMENT, () -> x.define(0, 0));
        Check.refused("pair without terms", Check.ARGUMENT, () -> x.pair(0, 0));
        Check.refused("relate without terms", Check.ARGUMENT, () -> x.relate(true, 0, 0));
        Check.refused("call without terms", Check.ARGUMENT, () -> x.call(0, 0, 0, 0));
        Check.refused("combine without goals", Check.ARGUMENT, () -> x.combine(true, 0, 0));
        Check.due("the first term", x.atom(7), 0);
        RelationStream y = new RelationStream();
        Check.due("the first term of another object", y.place(0), 0);
    }

    private static void atomsAndPlaces() {
        RelationStream x = new RelationStream();
        int made = 0;
        for (int a = 0; a <= 9; a++) {
            Check.due("atom " + a, x.atom(a), made++);
        }
        for (int k = 0; k <= 5; k++) {
            Check.due("place " + k, x.place(k), made++);
        }
        for (int wrong : new int[] {-1, 10, 11, Integer.MIN_VALUE, Integer.MAX_VALUE}) {
            Check.refused("atom " + wrong, Check.ARGUMENT, () -> x.atom(wrong));
            Check.refused("place " + wrong, Check.ARGUMENT, () -> x.place(wrong));
        }
        Check.refused("place 6", Check.ARGUMENT, () -> x.place(6));
        Check.due("a term after wrong ones", x.atom(0), made);
    }

    private static void pairs() {
        RelationStream x = new RelationStream();
        x.atom(1);
        Check.due("pair of one term", x.pair(0, 0), 1);
        Check.due("pair of pairs", x.pair(1, 1), 2);
        Check.refused("pair(3, 0): it is not made yet", Check.ARGUMENT, () -> x.pair(3, 0));
        Check.refused("pair(0, 3)", Check.ARGUMENT, () -> x.pair(0, 3));
        Check.refused("pair(-1, 0)", Check.ARGUMENT, () -> x.pair(-1, 0));
        Check.refused("pair(0, -1)", Check.ARGUMENT, () -> x.pair(0, -1));
        Check.refused("pair(0, 40)", Check.ARGUMENT, () -> x.pair(0, 40));
    }

    private static void fortyTerms() {
        RelationStream x = new RelationStream();
        for (int i = 0; i < 40; i++) {
            Check.due("term " + i, i % 3 == 0 ? x.atom(1) : i % 3 == 1 ? x.place(1) : x.pair(0, i - 1), i);
        }
        Check.refused("atom as term 40", Check.STATE, () -> x.atom(1));
        Check.refused("place as term 40", Check.STATE, () -> x.place(1));
        Check.refused("pair as term 40", Check.STATE, () -> x.pair(0, 39));
        Check.refused("wrong atom as term 40", Check.ARGUMENT, () -> x.atom(10));
        Check.refused("wrong place as term 40", Check.ARGUMENT, () -> x.place(6));
        Check.refused("wrong pair as term 40", Check.ARGUMENT, () -> x.pair(0, 40));
        Check.due("a goal all the same", x.relate(true, 0, 39), 0);
    }

    private static void goals() {
        RelationStream x = new RelationStream();
        x.place(0);
        x.atom(1);
        Check.due("SAME", x.relate(true, 0, 1), 0);
        Check.due("DIFFER", x.relate(false, 0, 1), 1);
        Check.due("BOTH", x.combine(true, 0, 1), 2);
        Check.due("EITHER", x.combine(false, 2, 2), 3);
        Check.due("CALL", x.call(3, 0, 1, 0), 4);
        for (int wrong : new int[] {-1, 2, 40, Integer.MAX_VALUE, Integer.MIN_VALUE}) {
            Check.refused("relate(.., " + wrong + ", 0)", Check.ARGUMENT, () -> x.relate(true, wrong, 0));
            Check.refused("relate(.., 0, " + wrong + ")", Check.ARGUMENT, () -> x.relate(false, 0, wrong));
            Check.refused("call one " + wrong, Check.ARGUMENT, () -> x.call(0, wrong, 0, 0));
            Check.refused("call two " + wrong, Check.ARGUMENT, () -> x.call(0, 0, wrong, 0));
            Check.refused("call three " + wrong, Check.ARGUMENT, () -> x.call(0, 0, 0, wrong));
        }
        for (int wrong : new int[] {-1, 5, 40, Integer.MAX_VALUE, Integer.MIN_VALUE}) {
            Check.refused("combine(.., " + wrong + ", 0)", Check.ARGUMENT, () -> x.combine(true, wrong, 0));
            Check.refused("combine(.., 0, " + wrong + ")", Check.ARGUMENT, () -> x.combine(false, 0, wrong));
            Check.refusedAction("ask " + wrong, Check.ARGUMENT, () -> x.ask(wrong));
        }
        for (int wrong : new int[] {-1, 4, Integer.MAX_VALUE, Integer.MIN_VALUE}) {
            Check.refused("call relation " + wrong, Check.ARGUMENT, () -> x.call(wrong, 0, 0, 0));
            Check.refusedAction("define relation " + wrong, Check.ARGUMENT, () -> x.define(wrong, 0));
            Check.refusedAction("define relation " + wrong + " as none", Check.ARGUMENT, () -> x.define(wrong, -1));
        }
        for (int wrong : new int[] {-2, 5, 40, Integer.MIN_VALUE}) {
            Check.refusedAction("define goal " + wrong, Check.ARGUMENT, () -> x.define(0, wrong));
        }
        Check.due("a goal after wrong ones", x.call(0, 0, 0, 0), 5);
        Check.due("goals ask no question", x.status(), 0);
    }

    private static void fortyGoals() {
        RelationStream x = new RelationStream();
        x.place(0);
        for (int i = 0; i < 40; i++) {
            Check.due("goal " + i,
                    i % 3 == 0 ? x.relate(true, 0, 0) : i % 3 == 1 ? x.combine(true, 0, i - 1) : x.call(0, 0, 0, 0), i);
        }
        Check.refused("relate as goal 40", Check.STATE, () -> x.relate(true, 0, 0));
        Check.refused("combine as goal 40", Check.STATE, () -> x.combine(true, 0, 39));
        Check.refused("call as goal 40", Check.STATE, () -> x.call(0, 0, 0, 0));
        Check.refused("wrong relate as goal 40", Check.ARGUMENT, () -> x.relate(true, 0, 1));
        Check.refused("wrong combine as goal 40", Check.ARGUMENT, () -> x.combine(true, 0, 40));
        Check.refused("wrong call as goal 40", Check.ARGUMENT, () -> x.call(4, 0, 0, 0));
        Check.due("a term all the same", x.atom(0), 1);
        x.define(3, 39);
        x.ask(39);
        Check.due("the last goal is asked", x.status(), 1);
    }

    private static void relations() {
        RelationStream x = new RelationStream();
        x.place(0);
        x.atom(1);
        x.atom(2);
        x.relate(true, 0, 1);
        x.relate(true, 0, 2);
        x.call(2, 0, 0, 0);
        x.ask(2);
        Check.due("a call of a relation without a goal", x.run(9, false), 1);
        Check.due("it has ended", x.status(), 2);
        Check.due("no new frame", x.count(4), 1);
        Check.due("no bindings", x.count(5), 0);
        x.define(2, 0);
        x.ask(2);
        Check.due("with a goal", x.run(9, false), 2);
        Check.text(x, 0, 0, 1);
        x.ask(2);
        x.define(2, 1);
        Check.due("with another goal, from the next step on", x.run(9, false), 2);
        Check.text(x, 0, 0, 2);
        x.ask(2);
        x.run(1, false);
        x.define(2, 0);
        Check.due("what was called stays", x.run(9, false), 1);
        Check.text(x, 0, 0, 2);
        x.ask(2);
        x.define(2, -1);
        Check.due("without a goal again", x.run(9, false), 1);
        Check.due("no answers", x.count(0), 0);
        for (int r = 0; r < 4; r++) {
            x.define(r, 0);
            x.ask(x.call(r, 0, 1, 2));
            x.run(9, true);
            Check.due("relation " + r, x.count(0), 1);
        }
    }

    public static void main(String[] args) {
        newObject();
        atomsAndPlaces();
        pairs();
        fortyTerms();
        goals();
        fortyGoals();
        relations();
        Check.end();
    }
}
