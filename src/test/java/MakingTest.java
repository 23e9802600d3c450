/** Promises 1 to 8: a new object, and what makes terms, goals and relations; both sides of every boundary there. */
public final class MakingTest {
    private static final int LEAST = Integer.MIN_VALUE;
    private static final int GREATEST = Integer.MAX_VALUE;

    private MakingTest() {
    }

    private static void noTermsAndGoals() {
        Check.about("No terms, goals, relations with goals");
        RelationStream x = new RelationStream();
        Check.refused("pair(0, 0)", Check.ARGUMENT, () -> x.pair(0, 0));
        Check.refused("relate(true, 0, 0)", Check.ARGUMENT, () -> x.relate(true, 0, 0));
        Check.refused("call(0, 0, 0, 0)", Check.ARGUMENT, () -> x.call(0, 0, 0, 0));
        Check.due("the first term", x.place(0), 0);
        Check.refused("combine(true, 0, 0)", Check.ARGUMENT, () -> x.combine(true, 0, 0));
        Check.refusedAction("define(0, 0)", Check.ARGUMENT, () -> x.define(0, 0));
        Check.refusedAction("ask(0)", Check.ARGUMENT, () -> x.ask(0));
        for (int r = 0; r < 4; r++) {
            Check.due("the first goals", x.call(r, 0, 0, 0), r);
            Check.due("steps of a call of relation " + r, Check.askAndRun(x, r), 1);
            Check.counts("relation " + r + " has no goal", x, 0, 0, 0, 0, 1, 0, 0, 1);
        }
        Check.due("the first term of another object", new RelationStream().atom(0), 0);
    }

    private static void noQuestion() {
        Check.about("no question");
        RelationStream x = new RelationStream();
        Check.due("status", x.status(), 0);
        Check.counts("no question", x, 0, 0, 0, 0, 0, 0, 0, 0);
        Check.refused("text(0, 0, 0)", Check.INDEX, () -> x.text(0, 0, 0));
        Check.refused("conditions(0)", Check.INDEX, () -> x.conditions(0));
        Check.refused("run(0, false)", Check.STATE, () -> x.run(0, false));
        x.atom(1);
        x.relate(true, 0, 0);
        x.define(0, 0);
        Check.due("status with terms, goals and relations", x.status(), 0);
        x.ask(0);
        Check.due("status with a question", x.status(), 1);
    }

    private static void atomNumbers() {
        Check.about("IllegalArgumentException if it is not 0 .. 9");
        RelationStream x = new RelationStream();
        x.place(0);
        for (int a = 0; a <= 9; a++) {
            Check.due("atom(" + a + ")", x.atom(a), a + 1);
        }
        for (int wrong : new int[] {-1, 10, LEAST, GREATEST}) {
            Check.refused("atom(" + wrong + ")", Check.ARGUMENT, () -> x.atom(wrong));
        }
        Check.due("the term after them", x.atom(9), 11);
        for (int a = 0; a <= 9; a++) {
            Check.askAndRun(x, x.relate(true, 0, a + 1));
            Check.text(x, 0, 0, a);
        }
    }

    private static void placeNumbers() {
        Check.about("A place 0 .. 5 as a term. Exceptions as with atom.");
        RelationStream x = new RelationStream();
        for (int k = 0; k <= 5; k++) {
            Check.due("place(" + k + ")", x.place(k), k);
        }
        for (int wrong : new int[] {-1, 6, 9, LEAST, GREATEST}) {
            Check.refused("place(" + wrong + ")", Check.ARGUMENT, () -> x.place(wrong));
        }
        Check.due("the term after them", x.place(5), 6);
        int row = x.pair(5, 6);
        for (int k = 4; k >= 1; k--) {
            row = x.pair(k, row);
        }
        Check.askAndRun(x, x.relate(true, 0, row));
        Check.text(x, 0, 0, 10, 20, 10, 21, 10, 22, 10, 23, 10, 24, 24);
    }

    private static void pairHalves() {
        Check.about("A pair of two terms. IllegalArgumentException if there is none such");
        RelationStream x = new RelationStream();
        x.place(0);
        x.atom(1);
        x.atom(2);
        Check.due("pair of the first and the last term", x.pair(0, 2), 3);
        Check.due("pair of the last and the first term", x.pair(3, 0), 4);
        for (int wrong : new int[] {-1, 5, 6, 40, LEAST, GREATEST}) {
            Check.refused("pair(" + wrong + ", 0)", Check.ARGUMENT, () -> x.pair(wrong, 0));
            Check.refused("pair(0, " + wrong + ")", Check.ARGUMENT, () -> x.pair(0, wrong));
            Check.refused("pair(" + wrong + ", " + wrong + ")", Check.ARGUMENT, () -> x.pair(wrong, wrong));
        }
        Check.due("the pair after them", x.pair(1, 2), 5);
        Check.askAndRun(x, x.relate(true, 0, 5));
        Check.text(x, 0, 0, 10, 1, 2);
    }

    private static void fortyTerms(String kind) {
        Check.about("IllegalStateException if there are 40");
        RelationStream x = new RelationStream();
        x.place(0);
        for (int i = 1; i < 39; i++) {
            x.atom(i % 10);
        }
        Check.due(kind + " as the last term", kind.equals("atom") ? x.atom(9)
                : kind.equals("place") ? x.place(5) : x.pair(0, 38), 39);
        Check.refused("atom(9) behind it", Check.STATE, () -> x.atom(9));
        Check.refused("place(5) behind it", Check.STATE, () -> x.place(5));
        Check.refused("pair(0, 39) behind it", Check.STATE, () -> x.pair(0, 39));
        Check.refused("atom(10) behind it", Check.ARGUMENT, () -> x.atom(10));
        Check.refused("place(6) behind it", Check.ARGUMENT, () -> x.place(6));
        Check.refused("pair(0, 40) behind it", Check.ARGUMENT, () -> x.pair(0, 40));
        Check.refused("relate with term 40", Check.ARGUMENT, () -> x.relate(true, 0, 40));
        Check.due("goals are still made", x.relate(true, 38, 38), 0);
        Check.due("of the last term too", x.relate(true, 39, 39), 1);
        Check.due("an atom is what it was", Check.askAndRun(x, x.relate(true, 0, 38)), 1);
        Check.text(x, 0, 0, 8);
    }

    private static void relateTerms() {
        Check.about("A new goal, SAME or DIFFER: its number. IllegalArgumentException if there is no such term");
        RelationStream x = new RelationStream();
        x.place(0);
        x.atom(1);
        Check.due("SAME of the first and the last term", x.relate(true, 0, 1), 0);
        Check.due("DIFFER of the last and the first term", x.relate(false, 1, 0), 1);
        for (int wrong : new int[] {-1, 2, 40, LEAST, GREATEST}) {
            Check.refused("relate(true, " + wrong + ", 0)", Check.ARGUMENT, () -> x.relate(true, wrong, 0));
            Check.refused("relate(false, 0, " + wrong + ")", Check.ARGUMENT, () -> x.relate(false, 0, wrong));
        }
        Check.due("the goal after them", x.relate(false, 0, 0), 2);
        Check.due("the term after them", x.atom(2), 2);
        Check.due("a goal of that term", x.relate(true, 0, 2), 3);
        Check.askAndRun(x, 0);
        Check.text(x, 0, 0, 1);
    }

    private static void combineGoals() {
        Check.about("BOTH, or EITHER, of two goals. IllegalArgumentException if there is no such goal");
        RelationStream x = new RelationStream();
        x.place(0);
        for (int i = 0; i < 9; i++) {
            x.atom(i);
        }
        Check.due("a goal", x.relate(true, 0, 1), 0);
        Check.due("BOTH of one goal", x.combine(true, 0, 0), 1);
        Check.due("EITHER of the first and the last goal", x.combine(false, 0, 1), 2);
        Check.due("EITHER of the last and the first goal", x.combine(false, 2, 0), 3);
        for (int wrong : new int[] {-1, 4, 5, 9, 40, LEAST, GREATEST}) {
            Check.refused("combine(true, " + wrong + ", 0)", Check.ARGUMENT, () -> x.combine(true, wrong, 0));
            Check.refused("combine(false, 0, " + wrong + ")", Check.ARGUMENT, () -> x.combine(false, 0, wrong));
        }
        Check.due("the goal after them", x.combine(true, 3, 3), 4);
        Check.askAndRun(x, 3);
        Check.counts("three ways", x, 3);
    }

    private static void callTerms() {
        Check.about("IllegalArgumentException if there is no such relation (0 .. 3) or term");
        RelationStream x = new RelationStream();
        x.place(0);
        x.atom(1);
        Check.due("relation 0 with the first and the last term", x.call(0, 0, 1, 0), 0);
        Check.due("relation 3 with the last and the first term", x.call(3, 1, 0, 1), 1);
        for (int wrong : new int[] {-1, 2, 40, LEAST, GREATEST}) {
            Check.refused("call(0, " + wrong + ", 0, 0)", Check.ARGUMENT, () -> x.call(0, wrong, 0, 0));
            Check.refused("call(0, 0, " + wrong + ", 0)", Check.ARGUMENT, () -> x.call(0, 0, wrong, 0));
            Check.refused("call(0, 0, 0, " + wrong + ")", Check.ARGUMENT, () -> x.call(0, 0, 0, wrong));
        }
        for (int wrong : new int[] {-1, 4, LEAST, GREATEST}) {
            Check.refused("call(" + wrong + ", 0, 0, 0)", Check.ARGUMENT, () -> x.call(wrong, 0, 0, 0));
        }
        Check.due("the goal after them", x.call(3, 0, 0, 0), 2);
        x.define(0, x.relate(true, 0, 1));
        Check.askAndRun(x, 0);
        Check.text(x, 0, 0, 1);
    }

    private static void fortyGoals(String kind) {
        Check.about("IllegalStateException if there are 40 goals");
        RelationStream x = new RelationStream();
        x.place(0);
        x.atom(7);
        for (int i = 0; i < 39; i++) {
            Check.due("a goal", x.relate(true, 0, 1), i);
        }
        Check.due(kind + " as the last goal", kind.equals("relate") ? x.relate(false, 0, 1)
                : kind.equals("combine") ? x.combine(true, 0, 38) : x.call(3, 0, 1, 0), 39);
        Check.refused("relate(true, 0, 1) behind it", Check.STATE, () -> x.relate(true, 0, 1));
        Check.refused("combine(true, 0, 39) behind it", Check.STATE, () -> x.combine(true, 0, 39));
        Check.refused("call(0, 0, 1, 0) behind it", Check.STATE, () -> x.call(0, 0, 1, 0));
        Check.refused("relate(true, 0, 2) behind it", Check.ARGUMENT, () -> x.relate(true, 0, 2));
        Check.refused("combine(true, 0, 40) behind it", Check.ARGUMENT, () -> x.combine(true, 0, 40));
        Check.refused("call(4, 0, 0, 0) behind it", Check.ARGUMENT, () -> x.call(4, 0, 0, 0));
        Check.refusedAction("ask(40)", Check.ARGUMENT, () -> x.ask(40));
        Check.refusedAction("define(0, 40)", Check.ARGUMENT, () -> x.define(0, 40));
        Check.due("terms are still made", x.atom(0), 2);
        x.define(3, 38);
        x.ask(39);
        Check.due("the last goal is asked", x.status(), 1);
        x.run(200, true);
        Check.due("it has its answer", x.count(0), 1);
        Check.text(x, 0, 0, kind.equals("relate") ? 20 : 7);
    }

    private static void defineBounds() {
        Check.about("IllegalArgumentException if there is no such relation or goal");
        RelationStream x = new RelationStream();
        x.place(0);
        x.atom(1);
        x.atom(2);
        int one = x.relate(true, 0, 1);
        int two = x.relate(true, 0, 2);
        for (int r = 0; r <= 3; r++) {
            int relation = r;
            int call = x.call(r, 0, 0, 0);
            x.define(r, one);
            for (int wrong : new int[] {-2, call + 1, 40, LEAST, GREATEST}) {
                Check.refusedAction("define(" + r + ", " + wrong + ")", Check.ARGUMENT,
                        () -> x.define(relation, wrong));
            }
            Check.askAndRun(x, call);
            Check.text(x, 0, 0, 1);
            x.define(r, two);
            Check.askAndRun(x, call);
            Check.text(x, 0, 0, 2);
        }
        for (int wrong : new int[] {-1, 4, LEAST, GREATEST}) {
            Check.refusedAction("define(" + wrong + ", 0)", Check.ARGUMENT, () -> x.define(wrong, 0));
            Check.refusedAction("define(" + wrong + ", -1)", Check.ARGUMENT, () -> x.define(wrong, -1));
        }
        for (int r = 0; r <= 3; r++) {
            Check.askAndRun(x, two + 1 + r);
            Check.text(x, 0, 0, 2);
        }
        x.define(3, two + 4);
        Check.due("the last goal is taken: a call of itself", Check.askAndRun(x, two + 4), 39);
    }

    private static void defineNone() {
        Check.about("A relation gets a goal (-1: none)");
        RelationStream x = new RelationStream();
        x.place(0);
        x.atom(1);
        int goal = x.relate(true, 0, 1);
        int call = x.call(2, 0, 0, 0);
        x.define(2, -1);
        Check.due("none where there was none", Check.askAndRun(x, call), 1);
        x.define(2, goal);
        Check.due("a goal", Check.askAndRun(x, call), 2);
        Check.counts("a goal", x, 1, 0, 0, 0, 2, 4, 0, 2);
        x.define(2, -1);
        Check.due("none again", Check.askAndRun(x, call), 1);
        Check.counts("none again", x, 0, 0, 0, 0, 1, 0, 0, 1);
    }

    private static void fromTheNextStepOn() {
        Check.about("A relation gets a goal (-1: none), which it has from the next step on.");
        RelationStream x = new RelationStream();
        x.place(0);
        x.atom(1);
        x.atom(2);
        int one = x.relate(true, 0, 1);
        int two = x.relate(true, 0, 2);
        int call = x.call(2, 0, 0, 0);
        x.define(2, one);
        x.ask(call);
        x.define(2, two);
        Check.due("before the call's step", x.run(200, false), 2);
        Check.text(x, 0, 0, 2);
        x.ask(call);
        x.run(1, false);
        x.define(2, one);
        Check.due("behind the call's step", x.run(200, false), 1);
        Check.text(x, 0, 0, 2);
        x.ask(call);
        x.run(1, false);
        x.define(2, -1);
        Check.due("none, behind the call's step", x.run(200, false), 1);
        Check.text(x, 0, 0, 1);
        x.define(2, one);
        x.ask(call);
        x.define(2, -1);
        Check.due("none, before the call's step", x.run(200, false), 1);
        Check.counts("none, before the call's step", x, 0, 0, 0, 0, 1, 0, 0, 1);
    }

    private static void calls512() {
        Check.about("An object is used for at most 512 calls after it has been made");
        RelationStream x = new RelationStream();
        x.place(0);
        x.atom(3);
        x.relate(true, 0, 1);
        for (int calls = 3; calls < 511; calls += 4) {
            x.ask(0);
            Check.due("run as call " + (calls + 2), x.run(200, true), 1);
            Check.due("text as call " + (calls + 3), x.text(0, 0, 0), 3);
            Check.due("count as call " + (calls + 4), x.count(7), 1);
        }
        Check.due("status as call 512", x.status(), 2);
    }

    public static void main(String[] args) {
        noTermsAndGoals();
        noQuestion();
        atomNumbers();
        placeNumbers();
        pairHalves();
        fortyTerms("atom");
        fortyTerms("place");
        fortyTerms("pair");
        relateTerms();
        combineGoals();
        callTerms();
        fortyGoals("relate");
        fortyGoals("combine");
        fortyGoals("call");
        defineBounds();
        defineNone();
        fromTheNextStepOn();
        calls512();
        Check.end();
    }
}
